def mL_0 (L : Nat) (xs : Nat → Int32) (x3 : Int32) (MC : cM) (MR : rM) : Option (cM × rM) := zgd (zin (x3 + (1 : Int32)) L) (zgd (zin (x3 + (2 : Int32)) L) (zbd (m11_box (xs (nx (x3 + (1 : Int32)))) (xs (nx (x3 + (2 : Int32)))) MC) (fun r3 MC3 => zgd (zin (x3 + (1 : Int32)) L) (zgd (zin (x3 + (2 : Int32)) L) (zbd (m12_box (xs (nx (x3 + (1 : Int32)))) (xs (nx (x3 + (2 : Int32)))) MR) (fun r6 MR6 => (if r3 = r6 then some (MC3, MR6) else none)))))))
set_option maxHeartbeats 4000000 in
theorem mL_0_ok {p : Program} {l : Launch} {e : Env} {s : State} {m : MethodId} {args : Array Value} {below : List Frame} {meth : Method} {c : Code} {Q : State → Prop} {D : va_G} {ad : zR → Nat} {ca : Nat → ClassId} {A : Nat → Prop} {base n k : Nat} {L : Nat} {xs : Nat → Int32} {x3 : Int32} {MC MC' : cM} {MR MR' : rM} (hW : zWh zUA base ad A) (Z : zOK (zCm p l e room_1 s m args below meth c Q code 4 R_law tbL (zGL D ad ca A))) (hX : va_X (ad (2200, 0)) L xs s s.heap ∧ ad (2200, 0) < s.heap.size ∧ ¬ A (ad (2200, 0))) (hnk : n ≤ room_1.cells ∧ k ≤ room_1.slots) (h : mL_0 L xs x3 MC MR = some (MC', MR')) (K : zGo (zCm p l e room_1 s m args below meth c Q code 4 R_law tbL (zGL D ad ca A)) n k (1669, [(0, .inr (.inr (some (2200, 0)))), (1, .inr (.inr (some (11, 0)))), (2, .inr (.inr (some (12, 0)))), (3, .inl x3)], [], zmix MC' MR')) : zGo (zCm p l e room_1 s m args below meth c Q code 4 R_law tbL (zGL D ad ca A)) n k (224, [(0, .inr (.inr (some (2200, 0)))), (1, .inr (.inr (some (11, 0)))), (2, .inr (.inr (some (12, 0)))), (3, .inl x3)], [], zmix MC MR) := by
  unfold mL_0 at h
  refine zblq Z rfl [(.aload 1, 1), (.aload 0, 1), (.iload 3, 1), (.iconst 1, 1), (.iadd, 1)] (S' := (229, [(0, .inr (.inr (some (2200, 0)))), (1, .inr (.inr (some (11, 0)))), (2, .inr (.inr (some (12, 0)))), (3, .inl x3)], [.inl (x3 + (1 : Int32)), .inr (.inr (some (2200, 0))), .inr (.inr (some (11, 0)))], _)) (b := true) (by decide +kernel) rfl rfl ?_
  obtain ⟨hg1, h⟩ := zgd_inv h
  refine c_sld Z hX hg1 (by decide +kernel) ?_
  refine zblq Z rfl [(.aload 0, 1), (.iload 3, 1), (.iconst 2, 1), (.iadd, 1)] (S' := (234, [(0, .inr (.inr (some (2200, 0)))), (1, .inr (.inr (some (11, 0)))), (2, .inr (.inr (some (12, 0)))), (3, .inl x3)], [.inl (x3 + (2 : Int32)), .inr (.inr (some (2200, 0))), .inl (xs (nx (x3 + (1 : Int32)))), .inr (.inr (some (11, 0)))], _)) (b := true) (by decide +kernel) rfl rfl ?_
  obtain ⟨hg2, h⟩ := zgd_inv h
  refine c_sld Z hX hg2 (by decide +kernel) ?_
  obtain ⟨r3, MC3, hc3, h⟩ := zbd_inv h
  refine lw_callC hW Z (as := [.inl (xs (nx (x3 + (1 : Int32)))), .inl (xs (nx (x3 + (2 : Int32))))]) (st := []) (m11_box_met (zGC_ok hW) rfl hc3) cwL_13 m11_box_in m11_box_se rfl ⟨by exact Nat.le_of_ble_eq_true rfl, by exact Nat.le_of_ble_eq_true rfl⟩ rfl (by decide +kernel) hnk ?_
  refine zblq Z rfl [(.aload 2, 1), (.aload 0, 1), (.iload 3, 1), (.iconst 1, 1), (.iadd, 1)] (S' := (243, [(0, .inr (.inr (some (2200, 0)))), (1, .inr (.inr (some (11, 0)))), (2, .inr (.inr (some (12, 0)))), (3, .inl x3)], [.inl (x3 + (1 : Int32)), .inr (.inr (some (2200, 0))), .inr (.inr (some (12, 0))), .inl r3], _)) (b := true) (by decide +kernel) rfl rfl ?_
  obtain ⟨hg4, h⟩ := zgd_inv h
  refine c_sld Z hX hg4 (by decide +kernel) ?_
  refine zblq Z rfl [(.aload 0, 1), (.iload 3, 1), (.iconst 2, 1), (.iadd, 1)] (S' := (248, [(0, .inr (.inr (some (2200, 0)))), (1, .inr (.inr (some (11, 0)))), (2, .inr (.inr (some (12, 0)))), (3, .inl x3)], [.inl (x3 + (2 : Int32)), .inr (.inr (some (2200, 0))), .inl (xs (nx (x3 + (1 : Int32)))), .inr (.inr (some (12, 0))), .inl r3], _)) (b := true) (by decide +kernel) rfl rfl ?_
  obtain ⟨hg5, h⟩ := zgd_inv h
  refine c_sld Z hX hg5 (by decide +kernel) ?_
  obtain ⟨r6, MR6, hc6, h⟩ := zbd_inv h
  refine lw_callR hW Z (as := [.inl (xs (nx (x3 + (1 : Int32)))), .inl (xs (nx (x3 + (2 : Int32))))]) (st := [.inl r3]) (m12_box_met (zGR_ok hW) rfl hc6) cwL_17 m12_box_in m12_box_se rfl ⟨by exact Nat.le_of_ble_eq_true rfl, by exact Nat.le_of_ble_eq_true rfl⟩ rfl (by decide +kernel) hnk ?_
  refine zic_eq Z (off := 1417) (tgt := 1669) (by decide +kernel) (by decide) (fun hb7 => ?_) (fun hb7 => ?_)
  · replace h := zite_t h hb7
    cases h
    exact K
  · replace h := zite_f h hb7
    cases h
def mL_1 (L : Nat) (xs : Nat → Int32) (x3 : Int32) (MC : cM) (MR : rM) : Option (cM × rM) := zgd (zin (x3 + (1 : Int32)) L) (zgd (zin (x3 + (2 : Int32)) L) (zgd (zin (x3 + (3 : Int32)) L) ((if (xs (nx (x3 + (3 : Int32)))) = 0 then zbd (m11_hears (xs (nx (x3 + (1 : Int32)))) (xs (nx (x3 + (2 : Int32)))) (0 : Int32) MC) (fun r12 MC12 => zgd (zin (x3 + (1 : Int32)) L) (zgd (zin (x3 + (2 : Int32)) L) (zgd (zin (x3 + (3 : Int32)) L) ((if (xs (nx (x3 + (3 : Int32)))) = 0 then zbd (m12_hears (xs (nx (x3 + (1 : Int32)))) (xs (nx (x3 + (2 : Int32)))) (0 : Int32) MR) (fun r17 MR17 => (if r12 = r17 then some (MC12, MR17) else none)) else zbd (m12_hears (xs (nx (x3 + (1 : Int32)))) (xs (nx (x3 + (2 : Int32)))) (1 : Int32) MR) (fun r19 MR19 => (if r12 = r19 then some (MC12, MR19) else none))))))) else zbd (m11_hears (xs (nx (x3 + (1 : Int32)))) (xs (nx (x3 + (2 : Int32)))) (1 : Int32) MC) (fun r21 MC21 => zgd (zin (x3 + (1 : Int32)) L) (zgd (zin (x3 + (2 : Int32)) L) (zgd (zin (x3 + (3 : Int32)) L) ((if (xs (nx (x3 + (3 : Int32)))) = 0 then zbd (m12_hears (xs (nx (x3 + (1 : Int32)))) (xs (nx (x3 + (2 : Int32)))) (0 : Int32) MR) (fun r26 MR26 => (if r21 = r26 then some (MC21, MR26) else none)) else zbd (m12_hears (xs (nx (x3 + (1 : Int32)))) (xs (nx (x3 + (2 : Int32)))) (1 : Int32) MR) (fun r28 MR28 => (if r21 = r28 then some (MC21, MR28) else none)))))))))))
set_option maxHeartbeats 4000000 in
theorem mL_1_ok {p : Program} {l : Launch} {e : Env} {s : State} {m : MethodId} {args : Array Value} {below : List Frame} {meth : Method} {c : Code} {Q : State → Prop} {D : va_G} {ad : zR → Nat} {ca : Nat → ClassId} {A : Nat → Prop} {base n k : Nat} {L : Nat} {xs : Nat → Int32} {x3 : Int32} {MC MC' : cM} {MR MR' : rM} (hW : zWh zUA base ad A) (Z : zOK (zCm p l e room_1 s m args below meth c Q code 4 R_law tbL (zGL D ad ca A))) (hX : va_X (ad (2200, 0)) L xs s s.heap ∧ ad (2200, 0) < s.heap.size ∧ ¬ A (ad (2200, 0))) (hnk : n ≤ room_1.cells ∧ k ≤ room_1.slots) (h : mL_1 L xs x3 MC MR = some (MC', MR')) (K : zGo (zCm p l e room_1 s m args below meth c Q code 4 R_law tbL (zGL D ad ca A)) n k (1669, [(0, .inr (.inr (some (2200, 0)))), (1, .inr (.inr (some (11, 0)))), (2, .inr (.inr (some (12, 0)))), (3, .inl x3)], [], zmix MC' MR')) : zGo (zCm p l e room_1 s m args below meth c Q code 4 R_law tbL (zGL D ad ca A)) n k (257, [(0, .inr (.inr (some (2200, 0)))), (1, .inr (.inr (some (11, 0)))), (2, .inr (.inr (some (12, 0)))), (3, .inl x3)], [], zmix MC MR) := by
  unfold mL_1 at h
  refine zblq Z rfl [(.aload 1, 1), (.aload 0, 1), (.iload 3, 1), (.iconst 1, 1), (.iadd, 1)] (S' := (262, [(0, .inr (.inr (some (2200, 0)))), (1, .inr (.inr (some (11, 0)))), (2, .inr (.inr (some (12, 0)))), (3, .inl x3)], [.inl (x3 + (1 : Int32)), .inr (.inr (some (2200, 0))), .inr (.inr (some (11, 0)))], _)) (b := true) (by decide +kernel) rfl rfl ?_
  obtain ⟨hg8, h⟩ := zgd_inv h
  refine c_sld Z hX hg8 (by decide +kernel) ?_
  refine zblq Z rfl [(.aload 0, 1), (.iload 3, 1), (.iconst 2, 1), (.iadd, 1)] (S' := (267, [(0, .inr (.inr (some (2200, 0)))), (1, .inr (.inr (some (11, 0)))), (2, .inr (.inr (some (12, 0)))), (3, .inl x3)], [.inl (x3 + (2 : Int32)), .inr (.inr (some (2200, 0))), .inl (xs (nx (x3 + (1 : Int32)))), .inr (.inr (some (11, 0)))], _)) (b := true) (by decide +kernel) rfl rfl ?_
  obtain ⟨hg9, h⟩ := zgd_inv h
  refine c_sld Z hX hg9 (by decide +kernel) ?_
  refine zblq Z rfl [(.aload 0, 1), (.iload 3, 1), (.iconst 3, 1), (.iadd, 1)] (S' := (272, [(0, .inr (.inr (some (2200, 0)))), (1, .inr (.inr (some (11, 0)))), (2, .inr (.inr (some (12, 0)))), (3, .inl x3)], [.inl (x3 + (3 : Int32)), .inr (.inr (some (2200, 0))), .inl (xs (nx (x3 + (2 : Int32)))), .inl (xs (nx (x3 + (1 : Int32)))), .inr (.inr (some (11, 0)))], _)) (b := true) (by decide +kernel) rfl rfl ?_
  obtain ⟨hg10, h⟩ := zgd_inv h
  refine c_sld Z hX hg10 (by decide +kernel) ?_
  refine zif_eq Z (off := 7) (tgt := 280) (by decide +kernel) (by decide) (fun hb11 => ?_) (fun hb11 => ?_)
  · replace h := zite_t h hb11
    refine zblq Z rfl [(.iconst 0, 1)] (S' := (281, [(0, .inr (.inr (some (2200, 0)))), (1, .inr (.inr (some (11, 0)))), (2, .inr (.inr (some (12, 0)))), (3, .inl x3)], [.inl (0 : Int32), .inl (xs (nx (x3 + (2 : Int32)))), .inl (xs (nx (x3 + (1 : Int32)))), .inr (.inr (some (11, 0)))], _)) (b := true) (by decide +kernel) rfl rfl ?_
    obtain ⟨r12, MC12, hc12, h⟩ := zbd_inv h
    refine lw_callC hW Z (as := [.inl (xs (nx (x3 + (1 : Int32)))), .inl (xs (nx (x3 + (2 : Int32)))), .inl (0 : Int32)]) (st := []) (m11_hears_met (zGC_ok hW) rfl hc12) cwL_18 m11_hears_in m11_hears_se rfl ⟨by exact Nat.le_of_ble_eq_true rfl, by exact Nat.le_of_ble_eq_true rfl⟩ rfl (by decide +kernel) hnk ?_
    refine zblq Z rfl [(.aload 2, 1), (.aload 0, 1), (.iload 3, 1), (.iconst 1, 1), (.iadd, 1)] (S' := (289, [(0, .inr (.inr (some (2200, 0)))), (1, .inr (.inr (some (11, 0)))), (2, .inr (.inr (some (12, 0)))), (3, .inl x3)], [.inl (x3 + (1 : Int32)), .inr (.inr (some (2200, 0))), .inr (.inr (some (12, 0))), .inl r12], _)) (b := true) (by decide +kernel) rfl rfl ?_
    obtain ⟨hg13, h⟩ := zgd_inv h
    refine c_sld Z hX hg13 (by decide +kernel) ?_
    refine zblq Z rfl [(.aload 0, 1), (.iload 3, 1), (.iconst 2, 1), (.iadd, 1)] (S' := (294, [(0, .inr (.inr (some (2200, 0)))), (1, .inr (.inr (some (11, 0)))), (2, .inr (.inr (some (12, 0)))), (3, .inl x3)], [.inl (x3 + (2 : Int32)), .inr (.inr (some (2200, 0))), .inl (xs (nx (x3 + (1 : Int32)))), .inr (.inr (some (12, 0))), .inl r12], _)) (b := true) (by decide +kernel) rfl rfl ?_
    obtain ⟨hg14, h⟩ := zgd_inv h
    refine c_sld Z hX hg14 (by decide +kernel) ?_
    refine zblq Z rfl [(.aload 0, 1), (.iload 3, 1), (.iconst 3, 1), (.iadd, 1)] (S' := (299, [(0, .inr (.inr (some (2200, 0)))), (1, .inr (.inr (some (11, 0)))), (2, .inr (.inr (some (12, 0)))), (3, .inl x3)], [.inl (x3 + (3 : Int32)), .inr (.inr (some (2200, 0))), .inl (xs (nx (x3 + (2 : Int32)))), .inl (xs (nx (x3 + (1 : Int32)))), .inr (.inr (some (12, 0))), .inl r12], _)) (b := true) (by decide +kernel) rfl rfl ?_
    obtain ⟨hg15, h⟩ := zgd_inv h
    refine c_sld Z hX hg15 (by decide +kernel) ?_
    refine zif_eq Z (off := 7) (tgt := 307) (by decide +kernel) (by decide) (fun hb16 => ?_) (fun hb16 => ?_)
    · replace h := zite_t h hb16
      refine zblq Z rfl [(.iconst 0, 1)] (S' := (308, [(0, .inr (.inr (some (2200, 0)))), (1, .inr (.inr (some (11, 0)))), (2, .inr (.inr (some (12, 0)))), (3, .inl x3)], [.inl (0 : Int32), .inl (xs (nx (x3 + (2 : Int32)))), .inl (xs (nx (x3 + (1 : Int32)))), .inr (.inr (some (12, 0))), .inl r12], _)) (b := true) (by decide +kernel) rfl rfl ?_
      obtain ⟨r17, MR17, hc17, h⟩ := zbd_inv h
      refine lw_callR hW Z (as := [.inl (xs (nx (x3 + (1 : Int32)))), .inl (xs (nx (x3 + (2 : Int32)))), .inl (0 : Int32)]) (st := [.inl r12]) (m12_hears_met (zGR_ok hW) rfl hc17) cwL_22 m12_hears_in m12_hears_se rfl ⟨by exact Nat.le_of_ble_eq_true rfl, by exact Nat.le_of_ble_eq_true rfl⟩ rfl (by decide +kernel) hnk ?_
      refine zic_eq Z (off := 1358) (tgt := 1669) (by decide +kernel) (by decide) (fun hb18 => ?_) (fun hb18 => ?_)
      · replace h := zite_t h hb18
        cases h
        exact K
      · replace h := zite_f h hb18
        cases h
    · replace h := zite_f h hb16
      refine zblq Z rfl [(.iconst 1, 1), (.ldc 308, 3)] (S' := (308, [(0, .inr (.inr (some (2200, 0)))), (1, .inr (.inr (some (11, 0)))), (2, .inr (.inr (some (12, 0)))), (3, .inl x3)], [.inl (1 : Int32), .inl (xs (nx (x3 + (2 : Int32)))), .inl (xs (nx (x3 + (1 : Int32)))), .inr (.inr (some (12, 0))), .inl r12], _)) (b := true) (by decide +kernel) rfl rfl ?_
      obtain ⟨r19, MR19, hc19, h⟩ := zbd_inv h
      refine lw_callR hW Z (as := [.inl (xs (nx (x3 + (1 : Int32)))), .inl (xs (nx (x3 + (2 : Int32)))), .inl (1 : Int32)]) (st := [.inl r12]) (m12_hears_met (zGR_ok hW) rfl hc19) cwL_22 m12_hears_in m12_hears_se rfl ⟨by exact Nat.le_of_ble_eq_true rfl, by exact Nat.le_of_ble_eq_true rfl⟩ rfl (by decide +kernel) hnk ?_
      refine zic_eq Z (off := 1358) (tgt := 1669) (by decide +kernel) (by decide) (fun hb20 => ?_) (fun hb20 => ?_)
      · replace h := zite_t h hb20
        cases h
        exact K
      · replace h := zite_f h hb20
        cases h
  · replace h := zite_f h hb11
    refine zblq Z rfl [(.iconst 1, 1), (.ldc 281, 3)] (S' := (281, [(0, .inr (.inr (some (2200, 0)))), (1, .inr (.inr (some (11, 0)))), (2, .inr (.inr (some (12, 0)))), (3, .inl x3)], [.inl (1 : Int32), .inl (xs (nx (x3 + (2 : Int32)))), .inl (xs (nx (x3 + (1 : Int32)))), .inr (.inr (some (11, 0)))], _)) (b := true) (by decide +kernel) rfl rfl ?_
    obtain ⟨r21, MC21, hc21, h⟩ := zbd_inv h
    refine lw_callC hW Z (as := [.inl (xs (nx (x3 + (1 : Int32)))), .inl (xs (nx (x3 + (2 : Int32)))), .inl (1 : Int32)]) (st := []) (m11_hears_met (zGC_ok hW) rfl hc21) cwL_18 m11_hears_in m11_hears_se rfl ⟨by exact Nat.le_of_ble_eq_true rfl, by exact Nat.le_of_ble_eq_true rfl⟩ rfl (by decide +kernel) hnk ?_
    refine zblq Z rfl [(.aload 2, 1), (.aload 0, 1), (.iload 3, 1), (.iconst 1, 1), (.iadd, 1)] (S' := (289, [(0, .inr (.inr (some (2200, 0)))), (1, .inr (.inr (some (11, 0)))), (2, .inr (.inr (some (12, 0)))), (3, .inl x3)], [.inl (x3 + (1 : Int32)), .inr (.inr (some (2200, 0))), .inr (.inr (some (12, 0))), .inl r21], _)) (b := true) (by decide +kernel) rfl rfl ?_
    obtain ⟨hg22, h⟩ := zgd_inv h
    refine c_sld Z hX hg22 (by decide +kernel) ?_
    refine zblq Z rfl [(.aload 0, 1), (.iload 3, 1), (.iconst 2, 1), (.iadd, 1)] (S' := (294, [(0, .inr (.inr (some (2200, 0)))), (1, .inr (.inr (some (11, 0)))), (2, .inr (.inr (some (12, 0)))), (3, .inl x3)], [.inl (x3 + (2 : Int32)), .inr (.inr (some (2200, 0))), .inl (xs (nx (x3 + (1 : Int32)))), .inr (.inr (some (12, 0))), .inl r21], _)) (b := true) (by decide +kernel) rfl rfl ?_
    obtain ⟨hg23, h⟩ := zgd_inv h
    refine c_sld Z hX hg23 (by decide +kernel) ?_
    refine zblq Z rfl [(.aload 0, 1), (.iload 3, 1), (.iconst 3, 1), (.iadd, 1)] (S' := (299, [(0, .inr (.inr (some (2200, 0)))), (1, .inr (.inr (some (11, 0)))), (2, .inr (.inr (some (12, 0)))), (3, .inl x3)], [.inl (x3 + (3 : Int32)), .inr (.inr (some (2200, 0))), .inl (xs (nx (x3 + (2 : Int32)))), .inl (xs (nx (x3 + (1 : Int32)))), .inr (.inr (some (12, 0))), .inl r21], _)) (b := true) (by decide +kernel) rfl rfl ?_
    obtain ⟨hg24, h⟩ := zgd_inv h
    refine c_sld Z hX hg24 (by decide +kernel) ?_
    refine zif_eq Z (off := 7) (tgt := 307) (by decide +kernel) (by decide) (fun hb25 => ?_) (fun hb25 => ?_)
    · replace h := zite_t h hb25
      refine zblq Z rfl [(.iconst 0, 1)] (S' := (308, [(0, .inr (.inr (some (2200, 0)))), (1, .inr (.inr (some (11, 0)))), (2, .inr (.inr (some (12, 0)))), (3, .inl x3)], [.inl (0 : Int32), .inl (xs (nx (x3 + (2 : Int32)))), .inl (xs (nx (x3 + (1 : Int32)))), .inr (.inr (some (12, 0))), .inl r21], _)) (b := true) (by decide +kernel) rfl rfl ?_
      obtain ⟨r26, MR26, hc26, h⟩ := zbd_inv h
      refine lw_callR hW Z (as := [.inl (xs (nx (x3 + (1 : Int32)))), .inl (xs (nx (x3 + (2 : Int32)))), .inl (0 : Int32)]) (st := [.inl r21]) (m12_hears_met (zGR_ok hW) rfl hc26) cwL_22 m12_hears_in m12_hears_se rfl ⟨by exact Nat.le_of_ble_eq_true rfl, by exact Nat.le_of_ble_eq_true rfl⟩ rfl (by decide +kernel) hnk ?_
      refine zic_eq Z (off := 1358) (tgt := 1669) (by decide +kernel) (by decide) (fun hb27 => ?_) (fun hb27 => ?_)
      · replace h := zite_t h hb27
        cases h
        exact K
      · replace h := zite_f h hb27
        cases h
    · replace h := zite_f h hb25
      refine zblq Z rfl [(.iconst 1, 1), (.ldc 308, 3)] (S' := (308, [(0, .inr (.inr (some (2200, 0)))), (1, .inr (.inr (some (11, 0)))), (2, .inr (.inr (some (12, 0)))), (3, .inl x3)], [.inl (1 : Int32), .inl (xs (nx (x3 + (2 : Int32)))), .inl (xs (nx (x3 + (1 : Int32)))), .inr (.inr (some (12, 0))), .inl r21], _)) (b := true) (by decide +kernel) rfl rfl ?_
      obtain ⟨r28, MR28, hc28, h⟩ := zbd_inv h
      refine lw_callR hW Z (as := [.inl (xs (nx (x3 + (1 : Int32)))), .inl (xs (nx (x3 + (2 : Int32)))), .inl (1 : Int32)]) (st := [.inl r21]) (m12_hears_met (zGR_ok hW) rfl hc28) cwL_22 m12_hears_in m12_hears_se rfl ⟨by exact Nat.le_of_ble_eq_true rfl, by exact Nat.le_of_ble_eq_true rfl⟩ rfl (by decide +kernel) hnk ?_
      refine zic_eq Z (off := 1358) (tgt := 1669) (by decide +kernel) (by decide) (fun hb29 => ?_) (fun hb29 => ?_)
      · replace h := zite_t h hb29
        cases h
        exact K
      · replace h := zite_f h hb29
        cases h
def mL_2 (L : Nat) (xs : Nat → Int32) (x3 : Int32) (MC : cM) (MR : rM) : Option (cM × rM) := zgd (zin (x3 + (1 : Int32)) L) (zgd (zin (x3 + (2 : Int32)) L) (zgd (zin (x3 + (3 : Int32)) L) (zbd (m11_sleep (xs (nx (x3 + (1 : Int32)))) (xs (nx (x3 + (2 : Int32)))) (xs (nx (x3 + (3 : Int32)))) MC) (fun r33 MC33 => zgd (zin (x3 + (1 : Int32)) L) (zgd (zin (x3 + (2 : Int32)) L) (zgd (zin (x3 + (3 : Int32)) L) (zbd (m12_sleep (xs (nx (x3 + (1 : Int32)))) (xs (nx (x3 + (2 : Int32)))) (xs (nx (x3 + (3 : Int32)))) MR) (fun r37 MR37 => (if r33 = r37 then some (MC33, MR37) else none)))))))))
set_option maxHeartbeats 4000000 in
theorem mL_2_ok {p : Program} {l : Launch} {e : Env} {s : State} {m : MethodId} {args : Array Value} {below : List Frame} {meth : Method} {c : Code} {Q : State → Prop} {D : va_G} {ad : zR → Nat} {ca : Nat → ClassId} {A : Nat → Prop} {base n k : Nat} {L : Nat} {xs : Nat → Int32} {x3 : Int32} {MC MC' : cM} {MR MR' : rM} (hW : zWh zUA base ad A) (Z : zOK (zCm p l e room_1 s m args below meth c Q code 4 R_law tbL (zGL D ad ca A))) (hX : va_X (ad (2200, 0)) L xs s s.heap ∧ ad (2200, 0) < s.heap.size ∧ ¬ A (ad (2200, 0))) (hnk : n ≤ room_1.cells ∧ k ≤ room_1.slots) (h : mL_2 L xs x3 MC MR = some (MC', MR')) (K : zGo (zCm p l e room_1 s m args below meth c Q code 4 R_law tbL (zGL D ad ca A)) n k (1669, [(0, .inr (.inr (some (2200, 0)))), (1, .inr (.inr (some (11, 0)))), (2, .inr (.inr (some (12, 0)))), (3, .inl x3)], [], zmix MC' MR')) : zGo (zCm p l e room_1 s m args below meth c Q code 4 R_law tbL (zGL D ad ca A)) n k (316, [(0, .inr (.inr (some (2200, 0)))), (1, .inr (.inr (some (11, 0)))), (2, .inr (.inr (some (12, 0)))), (3, .inl x3)], [], zmix MC MR) := by
  unfold mL_2 at h
  refine zblq Z rfl [(.aload 1, 1), (.aload 0, 1), (.iload 3, 1), (.iconst 1, 1), (.iadd, 1)] (S' := (321, [(0, .inr (.inr (some (2200, 0)))), (1, .inr (.inr (some (11, 0)))), (2, .inr (.inr (some (12, 0)))), (3, .inl x3)], [.inl (x3 + (1 : Int32)), .inr (.inr (some (2200, 0))), .inr (.inr (some (11, 0)))], _)) (b := true) (by decide +kernel) rfl rfl ?_
  obtain ⟨hg30, h⟩ := zgd_inv h
  refine c_sld Z hX hg30 (by decide +kernel) ?_
  refine zblq Z rfl [(.aload 0, 1), (.iload 3, 1), (.iconst 2, 1), (.iadd, 1)] (S' := (326, [(0, .inr (.inr (some (2200, 0)))), (1, .inr (.inr (some (11, 0)))), (2, .inr (.inr (some (12, 0)))), (3, .inl x3)], [.inl (x3 + (2 : Int32)), .inr (.inr (some (2200, 0))), .inl (xs (nx (x3 + (1 : Int32)))), .inr (.inr (some (11, 0)))], _)) (b := true) (by decide +kernel) rfl rfl ?_
  obtain ⟨hg31, h⟩ := zgd_inv h
  refine c_sld Z hX hg31 (by decide +kernel) ?_
  refine zblq Z rfl [(.aload 0, 1), (.iload 3, 1), (.iconst 3, 1), (.iadd, 1)] (S' := (331, [(0, .inr (.inr (some (2200, 0)))), (1, .inr (.inr (some (11, 0)))), (2, .inr (.inr (some (12, 0)))), (3, .inl x3)], [.inl (x3 + (3 : Int32)), .inr (.inr (some (2200, 0))), .inl (xs (nx (x3 + (2 : Int32)))), .inl (xs (nx (x3 + (1 : Int32)))), .inr (.inr (some (11, 0)))], _)) (b := true) (by decide +kernel) rfl rfl ?_
  obtain ⟨hg32, h⟩ := zgd_inv h
  refine c_sld Z hX hg32 (by decide +kernel) ?_
  obtain ⟨r33, MC33, hc33, h⟩ := zbd_inv h
  refine lw_callC hW Z (as := [.inl (xs (nx (x3 + (1 : Int32)))), .inl (xs (nx (x3 + (2 : Int32)))), .inl (xs (nx (x3 + (3 : Int32))))]) (st := []) (m11_sleep_met (zGC_ok hW) rfl hc33) cwL_23 m11_sleep_in m11_sleep_se rfl ⟨by exact Nat.le_of_ble_eq_true rfl, by exact Nat.le_of_ble_eq_true rfl⟩ rfl (by decide +kernel) hnk ?_
  refine zblq Z rfl [(.aload 2, 1), (.aload 0, 1), (.iload 3, 1), (.iconst 1, 1), (.iadd, 1)] (S' := (340, [(0, .inr (.inr (some (2200, 0)))), (1, .inr (.inr (some (11, 0)))), (2, .inr (.inr (some (12, 0)))), (3, .inl x3)], [.inl (x3 + (1 : Int32)), .inr (.inr (some (2200, 0))), .inr (.inr (some (12, 0))), .inl r33], _)) (b := true) (by decide +kernel) rfl rfl ?_
  obtain ⟨hg34, h⟩ := zgd_inv h
  refine c_sld Z hX hg34 (by decide +kernel) ?_
  refine zblq Z rfl [(.aload 0, 1), (.iload 3, 1), (.iconst 2, 1), (.iadd, 1)] (S' := (345, [(0, .inr (.inr (some (2200, 0)))), (1, .inr (.inr (some (11, 0)))), (2, .inr (.inr (some (12, 0)))), (3, .inl x3)], [.inl (x3 + (2 : Int32)), .inr (.inr (some (2200, 0))), .inl (xs (nx (x3 + (1 : Int32)))), .inr (.inr (some (12, 0))), .inl r33], _)) (b := true) (by decide +kernel) rfl rfl ?_
  obtain ⟨hg35, h⟩ := zgd_inv h
  refine c_sld Z hX hg35 (by decide +kernel) ?_
  refine zblq Z rfl [(.aload 0, 1), (.iload 3, 1), (.iconst 3, 1), (.iadd, 1)] (S' := (350, [(0, .inr (.inr (some (2200, 0)))), (1, .inr (.inr (some (11, 0)))), (2, .inr (.inr (some (12, 0)))), (3, .inl x3)], [.inl (x3 + (3 : Int32)), .inr (.inr (some (2200, 0))), .inl (xs (nx (x3 + (2 : Int32)))), .inl (xs (nx (x3 + (1 : Int32)))), .inr (.inr (some (12, 0))), .inl r33], _)) (b := true) (by decide +kernel) rfl rfl ?_
  obtain ⟨hg36, h⟩ := zgd_inv h
  refine c_sld Z hX hg36 (by decide +kernel) ?_
  obtain ⟨r37, MR37, hc37, h⟩ := zbd_inv h
  refine lw_callR hW Z (as := [.inl (xs (nx (x3 + (1 : Int32)))), .inl (xs (nx (x3 + (2 : Int32)))), .inl (xs (nx (x3 + (3 : Int32))))]) (st := [.inl r33]) (m12_sleep_met (zGR_ok hW) rfl hc37) cwL_27 m12_sleep_in m12_sleep_se rfl ⟨by exact Nat.le_of_ble_eq_true rfl, by exact Nat.le_of_ble_eq_true rfl⟩ rfl (by decide +kernel) hnk ?_
  refine zic_eq Z (off := 1315) (tgt := 1669) (by decide +kernel) (by decide) (fun hb38 => ?_) (fun hb38 => ?_)
  · replace h := zite_t h hb38
    cases h
    exact K
  · replace h := zite_f h hb38
    cases h
def mL_3 (L : Nat) (xs : Nat → Int32) (x3 : Int32) (MC : cM) (MR : rM) : Option (cM × rM) := zgd (zin (x3 + (1 : Int32)) L) (zgd (zin (x3 + (2 : Int32)) L) (zgd (zin (x3 + (3 : Int32)) L) (zbd (m11_clock (xs (nx (x3 + (1 : Int32)))) (xs (nx (x3 + (2 : Int32)))) (xs (nx (x3 + (3 : Int32)))) MC) (fun r42 MC42 => zgd (zin (x3 + (1 : Int32)) L) (zgd (zin (x3 + (2 : Int32)) L) (zgd (zin (x3 + (3 : Int32)) L) (zbd (m12_clock (xs (nx (x3 + (1 : Int32)))) (xs (nx (x3 + (2 : Int32)))) (xs (nx (x3 + (3 : Int32)))) MR) (fun r46 MR46 => (if r42 = r46 then some (MC42, MR46) else none)))))))))
set_option maxHeartbeats 4000000 in
theorem mL_3_ok {p : Program} {l : Launch} {e : Env} {s : State} {m : MethodId} {args : Array Value} {below : List Frame} {meth : Method} {c : Code} {Q : State → Prop} {D : va_G} {ad : zR → Nat} {ca : Nat → ClassId} {A : Nat → Prop} {base n k : Nat} {L : Nat} {xs : Nat → Int32} {x3 : Int32} {MC MC' : cM} {MR MR' : rM} (hW : zWh zUA base ad A) (Z : zOK (zCm p l e room_1 s m args below meth c Q code 4 R_law tbL (zGL D ad ca A))) (hX : va_X (ad (2200, 0)) L xs s s.heap ∧ ad (2200, 0) < s.heap.size ∧ ¬ A (ad (2200, 0))) (hnk : n ≤ room_1.cells ∧ k ≤ room_1.slots) (h : mL_3 L xs x3 MC MR = some (MC', MR')) (K : zGo (zCm p l e room_1 s m args below meth c Q code 4 R_law tbL (zGL D ad ca A)) n k (1669, [(0, .inr (.inr (some (2200, 0)))), (1, .inr (.inr (some (11, 0)))), (2, .inr (.inr (some (12, 0)))), (3, .inl x3)], [], zmix MC' MR')) : zGo (zCm p l e room_1 s m args below meth c Q code 4 R_law tbL (zGL D ad ca A)) n k (359, [(0, .inr (.inr (some (2200, 0)))), (1, .inr (.inr (some (11, 0)))), (2, .inr (.inr (some (12, 0)))), (3, .inl x3)], [], zmix MC MR) := by
  unfold mL_3 at h
  refine zblq Z rfl [(.aload 1, 1), (.aload 0, 1), (.iload 3, 1), (.iconst 1, 1), (.iadd, 1)] (S' := (364, [(0, .inr (.inr (some (2200, 0)))), (1, .inr (.inr (some (11, 0)))), (2, .inr (.inr (some (12, 0)))), (3, .inl x3)], [.inl (x3 + (1 : Int32)), .inr (.inr (some (2200, 0))), .inr (.inr (some (11, 0)))], _)) (b := true) (by decide +kernel) rfl rfl ?_
  obtain ⟨hg39, h⟩ := zgd_inv h
  refine c_sld Z hX hg39 (by decide +kernel) ?_
  refine zblq Z rfl [(.aload 0, 1), (.iload 3, 1), (.iconst 2, 1), (.iadd, 1)] (S' := (369, [(0, .inr (.inr (some (2200, 0)))), (1, .inr (.inr (some (11, 0)))), (2, .inr (.inr (some (12, 0)))), (3, .inl x3)], [.inl (x3 + (2 : Int32)), .inr (.inr (some (2200, 0))), .inl (xs (nx (x3 + (1 : Int32)))), .inr (.inr (some (11, 0)))], _)) (b := true) (by decide +kernel) rfl rfl ?_
  obtain ⟨hg40, h⟩ := zgd_inv h
  refine c_sld Z hX hg40 (by decide +kernel) ?_
  refine zblq Z rfl [(.aload 0, 1), (.iload 3, 1), (.iconst 3, 1), (.iadd, 1)] (S' := (374, [(0, .inr (.inr (some (2200, 0)))), (1, .inr (.inr (some (11, 0)))), (2, .inr (.inr (some (12, 0)))), (3, .inl x3)], [.inl (x3 + (3 : Int32)), .inr (.inr (some (2200, 0))), .inl (xs (nx (x3 + (2 : Int32)))), .inl (xs (nx (x3 + (1 : Int32)))), .inr (.inr (some (11, 0)))], _)) (b := true) (by decide +kernel) rfl rfl ?_
  obtain ⟨hg41, h⟩ := zgd_inv h
  refine c_sld Z hX hg41 (by decide +kernel) ?_
  obtain ⟨r42, MC42, hc42, h⟩ := zbd_inv h
  refine lw_callC hW Z (as := [.inl (xs (nx (x3 + (1 : Int32)))), .inl (xs (nx (x3 + (2 : Int32)))), .inl (xs (nx (x3 + (3 : Int32))))]) (st := []) (m11_clock_met (zGC_ok hW) rfl hc42) cwL_28 m11_clock_in m11_clock_se rfl ⟨by exact Nat.le_of_ble_eq_true rfl, by exact Nat.le_of_ble_eq_true rfl⟩ rfl (by decide +kernel) hnk ?_
  refine zblq Z rfl [(.aload 2, 1), (.aload 0, 1), (.iload 3, 1), (.iconst 1, 1), (.iadd, 1)] (S' := (383, [(0, .inr (.inr (some (2200, 0)))), (1, .inr (.inr (some (11, 0)))), (2, .inr (.inr (some (12, 0)))), (3, .inl x3)], [.inl (x3 + (1 : Int32)), .inr (.inr (some (2200, 0))), .inr (.inr (some (12, 0))), .inl r42], _)) (b := true) (by decide +kernel) rfl rfl ?_
  obtain ⟨hg43, h⟩ := zgd_inv h
  refine c_sld Z hX hg43 (by decide +kernel) ?_
  refine zblq Z rfl [(.aload 0, 1), (.iload 3, 1), (.iconst 2, 1), (.iadd, 1)] (S' := (388, [(0, .inr (.inr (some (2200, 0)))), (1, .inr (.inr (some (11, 0)))), (2, .inr (.inr (some (12, 0)))), (3, .inl x3)], [.inl (x3 + (2 : Int32)), .inr (.inr (some (2200, 0))), .inl (xs (nx (x3 + (1 : Int32)))), .inr (.inr (some (12, 0))), .inl r42], _)) (b := true) (by decide +kernel) rfl rfl ?_
  obtain ⟨hg44, h⟩ := zgd_inv h
  refine c_sld Z hX hg44 (by decide +kernel) ?_
  refine zblq Z rfl [(.aload 0, 1), (.iload 3, 1), (.iconst 3, 1), (.iadd, 1)] (S' := (393, [(0, .inr (.inr (some (2200, 0)))), (1, .inr (.inr (some (11, 0)))), (2, .inr (.inr (some (12, 0)))), (3, .inl x3)], [.inl (x3 + (3 : Int32)), .inr (.inr (some (2200, 0))), .inl (xs (nx (x3 + (2 : Int32)))), .inl (xs (nx (x3 + (1 : Int32)))), .inr (.inr (some (12, 0))), .inl r42], _)) (b := true) (by decide +kernel) rfl rfl ?_
  obtain ⟨hg45, h⟩ := zgd_inv h
  refine c_sld Z hX hg45 (by decide +kernel) ?_
  obtain ⟨r46, MR46, hc46, h⟩ := zbd_inv h
  refine lw_callR hW Z (as := [.inl (xs (nx (x3 + (1 : Int32)))), .inl (xs (nx (x3 + (2 : Int32)))), .inl (xs (nx (x3 + (3 : Int32))))]) (st := [.inl r42]) (m12_clock_met (zGR_ok hW) rfl hc46) cwL_31 m12_clock_in m12_clock_se rfl ⟨by exact Nat.le_of_ble_eq_true rfl, by exact Nat.le_of_ble_eq_true rfl⟩ rfl (by decide +kernel) hnk ?_
  refine zic_eq Z (off := 1272) (tgt := 1669) (by decide +kernel) (by decide) (fun hb47 => ?_) (fun hb47 => ?_)
  · replace h := zite_t h hb47
    cases h
    exact K
  · replace h := zite_f h hb47
    cases h
def mL_4 (L : Nat) (xs : Nat → Int32) (x3 : Int32) (MC : cM) (MR : rM) : Option (cM × rM) := zgd (zin (x3 + (1 : Int32)) L) (zgd (zin (x3 + (2 : Int32)) L) (zbd (m11_set (xs (nx (x3 + (1 : Int32)))) (xs (nx (x3 + (2 : Int32)))) MC) (fun r50 MC50 => zgd (zin (x3 + (1 : Int32)) L) (zgd (zin (x3 + (2 : Int32)) L) (zbd (m12_set (xs (nx (x3 + (1 : Int32)))) (xs (nx (x3 + (2 : Int32)))) MR) (fun r53 MR53 => (if r50 = r53 then some (MC50, MR53) else none)))))))
set_option maxHeartbeats 4000000 in
theorem mL_4_ok {p : Program} {l : Launch} {e : Env} {s : State} {m : MethodId} {args : Array Value} {below : List Frame} {meth : Method} {c : Code} {Q : State → Prop} {D : va_G} {ad : zR → Nat} {ca : Nat → ClassId} {A : Nat → Prop} {base n k : Nat} {L : Nat} {xs : Nat → Int32} {x3 : Int32} {MC MC' : cM} {MR MR' : rM} (hW : zWh zUA base ad A) (Z : zOK (zCm p l e room_1 s m args below meth c Q code 4 R_law tbL (zGL D ad ca A))) (hX : va_X (ad (2200, 0)) L xs s s.heap ∧ ad (2200, 0) < s.heap.size ∧ ¬ A (ad (2200, 0))) (hnk : n ≤ room_1.cells ∧ k ≤ room_1.slots) (h : mL_4 L xs x3 MC MR = some (MC', MR')) (K : zGo (zCm p l e room_1 s m args below meth c Q code 4 R_law tbL (zGL D ad ca A)) n k (1669, [(0, .inr (.inr (some (2200, 0)))), (1, .inr (.inr (some (11, 0)))), (2, .inr (.inr (some (12, 0)))), (3, .inl x3)], [], zmix MC' MR')) : zGo (zCm p l e room_1 s m args below meth c Q code 4 R_law tbL (zGL D ad ca A)) n k (402, [(0, .inr (.inr (some (2200, 0)))), (1, .inr (.inr (some (11, 0)))), (2, .inr (.inr (some (12, 0)))), (3, .inl x3)], [], zmix MC MR) := by
  unfold mL_4 at h
  refine zblq Z rfl [(.aload 1, 1), (.aload 0, 1), (.iload 3, 1), (.iconst 1, 1), (.iadd, 1)] (S' := (407, [(0, .inr (.inr (some (2200, 0)))), (1, .inr (.inr (some (11, 0)))), (2, .inr (.inr (some (12, 0)))), (3, .inl x3)], [.inl (x3 + (1 : Int32)), .inr (.inr (some (2200, 0))), .inr (.inr (some (11, 0)))], _)) (b := true) (by decide +kernel) rfl rfl ?_
  obtain ⟨hg48, h⟩ := zgd_inv h
  refine c_sld Z hX hg48 (by decide +kernel) ?_
  refine zblq Z rfl [(.aload 0, 1), (.iload 3, 1), (.iconst 2, 1), (.iadd, 1)] (S' := (412, [(0, .inr (.inr (some (2200, 0)))), (1, .inr (.inr (some (11, 0)))), (2, .inr (.inr (some (12, 0)))), (3, .inl x3)], [.inl (x3 + (2 : Int32)), .inr (.inr (some (2200, 0))), .inl (xs (nx (x3 + (1 : Int32)))), .inr (.inr (some (11, 0)))], _)) (b := true) (by decide +kernel) rfl rfl ?_
  obtain ⟨hg49, h⟩ := zgd_inv h
  refine c_sld Z hX hg49 (by decide +kernel) ?_
  obtain ⟨r50, MC50, hc50, h⟩ := zbd_inv h
  refine lw_callC hW Z (as := [.inl (xs (nx (x3 + (1 : Int32)))), .inl (xs (nx (x3 + (2 : Int32))))]) (st := []) (m11_set_met (zGC_ok hW) rfl hc50) cwL_32 m11_set_in m11_set_se rfl ⟨by exact Nat.le_of_ble_eq_true rfl, by exact Nat.le_of_ble_eq_true rfl⟩ rfl (by decide +kernel) hnk ?_
  refine zblq Z rfl [(.aload 2, 1), (.aload 0, 1), (.iload 3, 1), (.iconst 1, 1), (.iadd, 1)] (S' := (421, [(0, .inr (.inr (some (2200, 0)))), (1, .inr (.inr (some (11, 0)))), (2, .inr (.inr (some (12, 0)))), (3, .inl x3)], [.inl (x3 + (1 : Int32)), .inr (.inr (some (2200, 0))), .inr (.inr (some (12, 0))), .inl r50], _)) (b := true) (by decide +kernel) rfl rfl ?_
  obtain ⟨hg51, h⟩ := zgd_inv h
  refine c_sld Z hX hg51 (by decide +kernel) ?_
  refine zblq Z rfl [(.aload 0, 1), (.iload 3, 1), (.iconst 2, 1), (.iadd, 1)] (S' := (426, [(0, .inr (.inr (some (2200, 0)))), (1, .inr (.inr (some (11, 0)))), (2, .inr (.inr (some (12, 0)))), (3, .inl x3)], [.inl (x3 + (2 : Int32)), .inr (.inr (some (2200, 0))), .inl (xs (nx (x3 + (1 : Int32)))), .inr (.inr (some (12, 0))), .inl r50], _)) (b := true) (by decide +kernel) rfl rfl ?_
  obtain ⟨hg52, h⟩ := zgd_inv h
  refine c_sld Z hX hg52 (by decide +kernel) ?_
  obtain ⟨r53, MR53, hc53, h⟩ := zbd_inv h
  refine lw_callR hW Z (as := [.inl (xs (nx (x3 + (1 : Int32)))), .inl (xs (nx (x3 + (2 : Int32))))]) (st := [.inl r50]) (m12_set_met (zGR_ok hW) rfl hc53) cwL_35 m12_set_in m12_set_se rfl ⟨by exact Nat.le_of_ble_eq_true rfl, by exact Nat.le_of_ble_eq_true rfl⟩ rfl (by decide +kernel) hnk ?_
  refine zic_eq Z (off := 1239) (tgt := 1669) (by decide +kernel) (by decide) (fun hb54 => ?_) (fun hb54 => ?_)
  · replace h := zite_t h hb54
    cases h
    exact K
  · replace h := zite_f h hb54
    cases h
def mL_5 (L : Nat) (xs : Nat → Int32) (x3 : Int32) (MC : cM) (MR : rM) : Option (cM × rM) := zgd (zin (x3 + (1 : Int32)) L) (zgd (zin (x3 + (2 : Int32)) L) (zbd (m11_power (xs (nx (x3 + (1 : Int32)))) (xs (nx (x3 + (2 : Int32)))) MC) (fun r57 MC57 => zgd (zin (x3 + (1 : Int32)) L) (zgd (zin (x3 + (2 : Int32)) L) (zbd (m12_power (xs (nx (x3 + (1 : Int32)))) (xs (nx (x3 + (2 : Int32)))) MR) (fun r60 MR60 => (if r57 = r60 then some (MC57, MR60) else none)))))))
set_option maxHeartbeats 4000000 in
theorem mL_5_ok {p : Program} {l : Launch} {e : Env} {s : State} {m : MethodId} {args : Array Value} {below : List Frame} {meth : Method} {c : Code} {Q : State → Prop} {D : va_G} {ad : zR → Nat} {ca : Nat → ClassId} {A : Nat → Prop} {base n k : Nat} {L : Nat} {xs : Nat → Int32} {x3 : Int32} {MC MC' : cM} {MR MR' : rM} (hW : zWh zUA base ad A) (Z : zOK (zCm p l e room_1 s m args below meth c Q code 4 R_law tbL (zGL D ad ca A))) (hX : va_X (ad (2200, 0)) L xs s s.heap ∧ ad (2200, 0) < s.heap.size ∧ ¬ A (ad (2200, 0))) (hnk : n ≤ room_1.cells ∧ k ≤ room_1.slots) (h : mL_5 L xs x3 MC MR = some (MC', MR')) (K : zGo (zCm p l e room_1 s m args below meth c Q code 4 R_law tbL (zGL D ad ca A)) n k (1669, [(0, .inr (.inr (some (2200, 0)))), (1, .inr (.inr (some (11, 0)))), (2, .inr (.inr (some (12, 0)))), (3, .inl x3)], [], zmix MC' MR')) : zGo (zCm p l e room_1 s m args below meth c Q code 4 R_law tbL (zGL D ad ca A)) n k (435, [(0, .inr (.inr (some (2200, 0)))), (1, .inr (.inr (some (11, 0)))), (2, .inr (.inr (some (12, 0)))), (3, .inl x3)], [], zmix MC MR) := by
  unfold mL_5 at h
  refine zblq Z rfl [(.aload 1, 1), (.aload 0, 1), (.iload 3, 1), (.iconst 1, 1), (.iadd, 1)] (S' := (440, [(0, .inr (.inr (some (2200, 0)))), (1, .inr (.inr (some (11, 0)))), (2, .inr (.inr (some (12, 0)))), (3, .inl x3)], [.inl (x3 + (1 : Int32)), .inr (.inr (some (2200, 0))), .inr (.inr (some (11, 0)))], _)) (b := true) (by decide +kernel) rfl rfl ?_
  obtain ⟨hg55, h⟩ := zgd_inv h
  refine c_sld Z hX hg55 (by decide +kernel) ?_
  refine zblq Z rfl [(.aload 0, 1), (.iload 3, 1), (.iconst 2, 1), (.iadd, 1)] (S' := (445, [(0, .inr (.inr (some (2200, 0)))), (1, .inr (.inr (some (11, 0)))), (2, .inr (.inr (some (12, 0)))), (3, .inl x3)], [.inl (x3 + (2 : Int32)), .inr (.inr (some (2200, 0))), .inl (xs (nx (x3 + (1 : Int32)))), .inr (.inr (some (11, 0)))], _)) (b := true) (by decide +kernel) rfl rfl ?_
  obtain ⟨hg56, h⟩ := zgd_inv h
  refine c_sld Z hX hg56 (by decide +kernel) ?_
  obtain ⟨r57, MC57, hc57, h⟩ := zbd_inv h
  refine lw_callC hW Z (as := [.inl (xs (nx (x3 + (1 : Int32)))), .inl (xs (nx (x3 + (2 : Int32))))]) (st := []) (m11_power_met (zGC_ok hW) rfl hc57) cwL_36 m11_power_in m11_power_se rfl ⟨by exact Nat.le_of_ble_eq_true rfl, by exact Nat.le_of_ble_eq_true rfl⟩ rfl (by decide +kernel) hnk ?_
  refine zblq Z rfl [(.aload 2, 1), (.aload 0, 1), (.iload 3, 1), (.iconst 1, 1), (.iadd, 1)] (S' := (454, [(0, .inr (.inr (some (2200, 0)))), (1, .inr (.inr (some (11, 0)))), (2, .inr (.inr (some (12, 0)))), (3, .inl x3)], [.inl (x3 + (1 : Int32)), .inr (.inr (some (2200, 0))), .inr (.inr (some (12, 0))), .inl r57], _)) (b := true) (by decide +kernel) rfl rfl ?_
  obtain ⟨hg58, h⟩ := zgd_inv h
  refine c_sld Z hX hg58 (by decide +kernel) ?_
  refine zblq Z rfl [(.aload 0, 1), (.iload 3, 1), (.iconst 2, 1), (.iadd, 1)] (S' := (459, [(0, .inr (.inr (some (2200, 0)))), (1, .inr (.inr (some (11, 0)))), (2, .inr (.inr (some (12, 0)))), (3, .inl x3)], [.inl (x3 + (2 : Int32)), .inr (.inr (some (2200, 0))), .inl (xs (nx (x3 + (1 : Int32)))), .inr (.inr (some (12, 0))), .inl r57], _)) (b := true) (by decide +kernel) rfl rfl ?_
  obtain ⟨hg59, h⟩ := zgd_inv h
  refine c_sld Z hX hg59 (by decide +kernel) ?_
  obtain ⟨r60, MR60, hc60, h⟩ := zbd_inv h
  refine lw_callR hW Z (as := [.inl (xs (nx (x3 + (1 : Int32)))), .inl (xs (nx (x3 + (2 : Int32))))]) (st := [.inl r57]) (m12_power_met (zGR_ok hW) rfl hc60) cwL_39 m12_power_in m12_power_se rfl ⟨by exact Nat.le_of_ble_eq_true rfl, by exact Nat.le_of_ble_eq_true rfl⟩ rfl (by decide +kernel) hnk ?_
  refine zic_eq Z (off := 1206) (tgt := 1669) (by decide +kernel) (by decide) (fun hb61 => ?_) (fun hb61 => ?_)
  · replace h := zite_t h hb61
    cases h
    exact K
  · replace h := zite_f h hb61
    cases h
def mL_6 (L : Nat) (xs : Nat → Int32) (x3 : Int32) (MC : cM) (MR : rM) : Option (cM × rM) := zgd (zin (x3 + (1 : Int32)) L) (zgd (zin (x3 + (2 : Int32)) L) (zbd (m11_at (xs (nx (x3 + (1 : Int32)))) (xs (nx (x3 + (2 : Int32)))) MC) (fun r64 MC64 => zgd (zin (x3 + (1 : Int32)) L) (zgd (zin (x3 + (2 : Int32)) L) (zbd (m12_at (xs (nx (x3 + (1 : Int32)))) (xs (nx (x3 + (2 : Int32)))) MR) (fun r67 MR67 => (if r64 = r67 then some (MC64, MR67) else none)))))))
set_option maxHeartbeats 4000000 in
theorem mL_6_ok {p : Program} {l : Launch} {e : Env} {s : State} {m : MethodId} {args : Array Value} {below : List Frame} {meth : Method} {c : Code} {Q : State → Prop} {D : va_G} {ad : zR → Nat} {ca : Nat → ClassId} {A : Nat → Prop} {base n k : Nat} {L : Nat} {xs : Nat → Int32} {x3 : Int32} {MC MC' : cM} {MR MR' : rM} (hW : zWh zUA base ad A) (Z : zOK (zCm p l e room_1 s m args below meth c Q code 4 R_law tbL (zGL D ad ca A))) (hX : va_X (ad (2200, 0)) L xs s s.heap ∧ ad (2200, 0) < s.heap.size ∧ ¬ A (ad (2200, 0))) (hnk : n ≤ room_1.cells ∧ k ≤ room_1.slots) (h : mL_6 L xs x3 MC MR = some (MC', MR')) (K : zGo (zCm p l e room_1 s m args below meth c Q code 4 R_law tbL (zGL D ad ca A)) n k (1669, [(0, .inr (.inr (some (2200, 0)))), (1, .inr (.inr (some (11, 0)))), (2, .inr (.inr (some (12, 0)))), (3, .inl x3)], [], zmix MC' MR')) : zGo (zCm p l e room_1 s m args below meth c Q code 4 R_law tbL (zGL D ad ca A)) n k (468, [(0, .inr (.inr (some (2200, 0)))), (1, .inr (.inr (some (11, 0)))), (2, .inr (.inr (some (12, 0)))), (3, .inl x3)], [], zmix MC MR) := by
  unfold mL_6 at h
  refine zblq Z rfl [(.aload 1, 1), (.aload 0, 1), (.iload 3, 1), (.iconst 1, 1), (.iadd, 1)] (S' := (473, [(0, .inr (.inr (some (2200, 0)))), (1, .inr (.inr (some (11, 0)))), (2, .inr (.inr (some (12, 0)))), (3, .inl x3)], [.inl (x3 + (1 : Int32)), .inr (.inr (some (2200, 0))), .inr (.inr (some (11, 0)))], _)) (b := true) (by decide +kernel) rfl rfl ?_
  obtain ⟨hg62, h⟩ := zgd_inv h
  refine c_sld Z hX hg62 (by decide +kernel) ?_
  refine zblq Z rfl [(.aload 0, 1), (.iload 3, 1), (.iconst 2, 1), (.iadd, 1)] (S' := (478, [(0, .inr (.inr (some (2200, 0)))), (1, .inr (.inr (some (11, 0)))), (2, .inr (.inr (some (12, 0)))), (3, .inl x3)], [.inl (x3 + (2 : Int32)), .inr (.inr (some (2200, 0))), .inl (xs (nx (x3 + (1 : Int32)))), .inr (.inr (some (11, 0)))], _)) (b := true) (by decide +kernel) rfl rfl ?_
  obtain ⟨hg63, h⟩ := zgd_inv h
  refine c_sld Z hX hg63 (by decide +kernel) ?_
  obtain ⟨r64, MC64, hc64, h⟩ := zbd_inv h
  refine lw_callC hW Z (as := [.inl (xs (nx (x3 + (1 : Int32)))), .inl (xs (nx (x3 + (2 : Int32))))]) (st := []) (m11_at_met (zGC_ok hW) rfl hc64) cwL_40 m11_at_in m11_at_se rfl ⟨by exact Nat.le_of_ble_eq_true rfl, by exact Nat.le_of_ble_eq_true rfl⟩ rfl (by decide +kernel) hnk ?_
  refine zblq Z rfl [(.aload 2, 1), (.aload 0, 1), (.iload 3, 1), (.iconst 1, 1), (.iadd, 1)] (S' := (487, [(0, .inr (.inr (some (2200, 0)))), (1, .inr (.inr (some (11, 0)))), (2, .inr (.inr (some (12, 0)))), (3, .inl x3)], [.inl (x3 + (1 : Int32)), .inr (.inr (some (2200, 0))), .inr (.inr (some (12, 0))), .inl r64], _)) (b := true) (by decide +kernel) rfl rfl ?_
  obtain ⟨hg65, h⟩ := zgd_inv h
  refine c_sld Z hX hg65 (by decide +kernel) ?_
  refine zblq Z rfl [(.aload 0, 1), (.iload 3, 1), (.iconst 2, 1), (.iadd, 1)] (S' := (492, [(0, .inr (.inr (some (2200, 0)))), (1, .inr (.inr (some (11, 0)))), (2, .inr (.inr (some (12, 0)))), (3, .inl x3)], [.inl (x3 + (2 : Int32)), .inr (.inr (some (2200, 0))), .inl (xs (nx (x3 + (1 : Int32)))), .inr (.inr (some (12, 0))), .inl r64], _)) (b := true) (by decide +kernel) rfl rfl ?_
  obtain ⟨hg66, h⟩ := zgd_inv h
  refine c_sld Z hX hg66 (by decide +kernel) ?_
  obtain ⟨r67, MR67, hc67, h⟩ := zbd_inv h
  refine lw_callR hW Z (as := [.inl (xs (nx (x3 + (1 : Int32)))), .inl (xs (nx (x3 + (2 : Int32))))]) (st := [.inl r64]) (m12_at_met (zGR_ok hW) rfl hc67) cwL_43 m12_at_in m12_at_se rfl ⟨by exact Nat.le_of_ble_eq_true rfl, by exact Nat.le_of_ble_eq_true rfl⟩ rfl (by decide +kernel) hnk ?_
  refine zic_eq Z (off := 1173) (tgt := 1669) (by decide +kernel) (by decide) (fun hb68 => ?_) (fun hb68 => ?_)
  · replace h := zite_t h hb68
    cases h
    exact K
  · replace h := zite_f h hb68
    cases h
def mL_7 (L : Nat) (xs : Nat → Int32) (x3 : Int32) (MC : cM) (MR : rM) : Option (cM × rM) := zgd (zin (x3 + (1 : Int32)) L) (zbd (m11_rounds (xs (nx (x3 + (1 : Int32)))) MC) (fun r70 MC70 => zgd (zin (x3 + (1 : Int32)) L) (zbd (m12_rounds (xs (nx (x3 + (1 : Int32)))) MR) (fun r72 MR72 => (if r70 = r72 then some (MC70, MR72) else none)))))
set_option maxHeartbeats 4000000 in
theorem mL_7_ok {p : Program} {l : Launch} {e : Env} {s : State} {m : MethodId} {args : Array Value} {below : List Frame} {meth : Method} {c : Code} {Q : State → Prop} {D : va_G} {ad : zR → Nat} {ca : Nat → ClassId} {A : Nat → Prop} {base n k : Nat} {L : Nat} {xs : Nat → Int32} {x3 : Int32} {MC MC' : cM} {MR MR' : rM} (hW : zWh zUA base ad A) (Z : zOK (zCm p l e room_1 s m args below meth c Q code 4 R_law tbL (zGL D ad ca A))) (hX : va_X (ad (2200, 0)) L xs s s.heap ∧ ad (2200, 0) < s.heap.size ∧ ¬ A (ad (2200, 0))) (hnk : n ≤ room_1.cells ∧ k ≤ room_1.slots) (h : mL_7 L xs x3 MC MR = some (MC', MR')) (K : zGo (zCm p l e room_1 s m args below meth c Q code 4 R_law tbL (zGL D ad ca A)) n k (1669, [(0, .inr (.inr (some (2200, 0)))), (1, .inr (.inr (some (11, 0)))), (2, .inr (.inr (some (12, 0)))), (3, .inl x3)], [], zmix MC' MR')) : zGo (zCm p l e room_1 s m args below meth c Q code 4 R_law tbL (zGL D ad ca A)) n k (501, [(0, .inr (.inr (some (2200, 0)))), (1, .inr (.inr (some (11, 0)))), (2, .inr (.inr (some (12, 0)))), (3, .inl x3)], [], zmix MC MR) := by
  unfold mL_7 at h
  refine zblq Z rfl [(.aload 1, 1), (.aload 0, 1), (.iload 3, 1), (.iconst 1, 1), (.iadd, 1)] (S' := (506, [(0, .inr (.inr (some (2200, 0)))), (1, .inr (.inr (some (11, 0)))), (2, .inr (.inr (some (12, 0)))), (3, .inl x3)], [.inl (x3 + (1 : Int32)), .inr (.inr (some (2200, 0))), .inr (.inr (some (11, 0)))], _)) (b := true) (by decide +kernel) rfl rfl ?_
  obtain ⟨hg69, h⟩ := zgd_inv h
  refine c_sld Z hX hg69 (by decide +kernel) ?_
  obtain ⟨r70, MC70, hc70, h⟩ := zbd_inv h
  refine lw_callC hW Z (as := [.inl (xs (nx (x3 + (1 : Int32))))]) (st := []) (m11_rounds_met (zGC_ok hW) rfl hc70) cwL_44 m11_rounds_in m11_rounds_se rfl ⟨by exact Nat.le_of_ble_eq_true rfl, by exact Nat.le_of_ble_eq_true rfl⟩ rfl (by decide +kernel) hnk ?_
  refine zblq Z rfl [(.aload 2, 1), (.aload 0, 1), (.iload 3, 1), (.iconst 1, 1), (.iadd, 1)] (S' := (515, [(0, .inr (.inr (some (2200, 0)))), (1, .inr (.inr (some (11, 0)))), (2, .inr (.inr (some (12, 0)))), (3, .inl x3)], [.inl (x3 + (1 : Int32)), .inr (.inr (some (2200, 0))), .inr (.inr (some (12, 0))), .inl r70], _)) (b := true) (by decide +kernel) rfl rfl ?_
  obtain ⟨hg71, h⟩ := zgd_inv h
  refine c_sld Z hX hg71 (by decide +kernel) ?_
  obtain ⟨r72, MR72, hc72, h⟩ := zbd_inv h
  refine lw_callR hW Z (as := [.inl (xs (nx (x3 + (1 : Int32))))]) (st := [.inl r70]) (m12_rounds_met (zGR_ok hW) rfl hc72) cwL_48 m12_rounds_in m12_rounds_se rfl ⟨by exact Nat.le_of_ble_eq_true rfl, by exact Nat.le_of_ble_eq_true rfl⟩ rfl (by decide +kernel) hnk ?_
  refine zic_eq Z (off := 1150) (tgt := 1669) (by decide +kernel) (by decide) (fun hb73 => ?_) (fun hb73 => ?_)
  · replace h := zite_t h hb73
    cases h
    exact K
  · replace h := zite_f h hb73
    cases h
def mL_8 (L : Nat) (xs : Nat → Int32) (x3 : Int32) (MC : cM) (MR : rM) : Option (cM × rM) := zbd (m11_rings MC) (fun r74 MC74 => zbd (m12_rings MR) (fun r75 MR75 => (if r74 = r75 then some (MC74, MR75) else none)))
set_option maxHeartbeats 4000000 in
theorem mL_8_ok {p : Program} {l : Launch} {e : Env} {s : State} {m : MethodId} {args : Array Value} {below : List Frame} {meth : Method} {c : Code} {Q : State → Prop} {D : va_G} {ad : zR → Nat} {ca : Nat → ClassId} {A : Nat → Prop} {base n k : Nat} {L : Nat} {xs : Nat → Int32} {x3 : Int32} {MC MC' : cM} {MR MR' : rM} (hW : zWh zUA base ad A) (Z : zOK (zCm p l e room_1 s m args below meth c Q code 4 R_law tbL (zGL D ad ca A))) (hX : va_X (ad (2200, 0)) L xs s s.heap ∧ ad (2200, 0) < s.heap.size ∧ ¬ A (ad (2200, 0))) (hnk : n ≤ room_1.cells ∧ k ≤ room_1.slots) (h : mL_8 L xs x3 MC MR = some (MC', MR')) (K : zGo (zCm p l e room_1 s m args below meth c Q code 4 R_law tbL (zGL D ad ca A)) n k (1669, [(0, .inr (.inr (some (2200, 0)))), (1, .inr (.inr (some (11, 0)))), (2, .inr (.inr (some (12, 0)))), (3, .inl x3)], [], zmix MC' MR')) : zGo (zCm p l e room_1 s m args below meth c Q code 4 R_law tbL (zGL D ad ca A)) n k (524, [(0, .inr (.inr (some (2200, 0)))), (1, .inr (.inr (some (11, 0)))), (2, .inr (.inr (some (12, 0)))), (3, .inl x3)], [], zmix MC MR) := by
  unfold mL_8 at h
  refine zblq Z rfl [(.aload 1, 1)] (S' := (525, [(0, .inr (.inr (some (2200, 0)))), (1, .inr (.inr (some (11, 0)))), (2, .inr (.inr (some (12, 0)))), (3, .inl x3)], [.inr (.inr (some (11, 0)))], _)) (b := true) (by decide +kernel) rfl rfl ?_
  obtain ⟨r74, MC74, hc74, h⟩ := zbd_inv h
  refine lw_callC hW Z (as := []) (st := []) (m11_rings_met (zGC_ok hW) rfl hc74) cwL_49 m11_rings_in m11_rings_se rfl ⟨by exact Nat.le_of_ble_eq_true rfl, by exact Nat.le_of_ble_eq_true rfl⟩ rfl (by decide +kernel) hnk ?_
  refine zblq Z rfl [(.aload 2, 1)] (S' := (529, [(0, .inr (.inr (some (2200, 0)))), (1, .inr (.inr (some (11, 0)))), (2, .inr (.inr (some (12, 0)))), (3, .inl x3)], [.inr (.inr (some (12, 0))), .inl r74], _)) (b := true) (by decide +kernel) rfl rfl ?_
  obtain ⟨r75, MR75, hc75, h⟩ := zbd_inv h
  refine lw_callR hW Z (as := []) (st := [.inl r74]) (m12_rings_met (zGR_ok hW) rfl hc75) cwL_53 m12_rings_in m12_rings_se rfl ⟨by exact Nat.le_of_ble_eq_true rfl, by exact Nat.le_of_ble_eq_true rfl⟩ rfl (by decide +kernel) hnk ?_
  refine zic_eq Z (off := 1137) (tgt := 1669) (by decide +kernel) (by decide) (fun hb76 => ?_) (fun hb76 => ?_)
  · replace h := zite_t h hb76
    cases h
    exact K
  · replace h := zite_f h hb76
    cases h
def mL_9 (L : Nat) (xs : Nat → Int32) (x3 : Int32) (MC : cM) (MR : rM) : Option (cM × rM) := zgd (zin (x3 + (1 : Int32)) L) (zgd (zin (x3 + (2 : Int32)) L) (zbd (m11_say (xs (nx (x3 + (1 : Int32)))) (xs (nx (x3 + (2 : Int32)))) MC) (fun r79 MC79 => zgd (zin (x3 + (1 : Int32)) L) (zgd (zin (x3 + (2 : Int32)) L) (zbd (m12_say (xs (nx (x3 + (1 : Int32)))) (xs (nx (x3 + (2 : Int32)))) MR) (fun r82 MR82 => (if r79 = r82 then some (MC79, MR82) else none)))))))
set_option maxHeartbeats 4000000 in
theorem mL_9_ok {p : Program} {l : Launch} {e : Env} {s : State} {m : MethodId} {args : Array Value} {below : List Frame} {meth : Method} {c : Code} {Q : State → Prop} {D : va_G} {ad : zR → Nat} {ca : Nat → ClassId} {A : Nat → Prop} {base n k : Nat} {L : Nat} {xs : Nat → Int32} {x3 : Int32} {MC MC' : cM} {MR MR' : rM} (hW : zWh zUA base ad A) (Z : zOK (zCm p l e room_1 s m args below meth c Q code 4 R_law tbL (zGL D ad ca A))) (hX : va_X (ad (2200, 0)) L xs s s.heap ∧ ad (2200, 0) < s.heap.size ∧ ¬ A (ad (2200, 0))) (hnk : n ≤ room_1.cells ∧ k ≤ room_1.slots) (h : mL_9 L xs x3 MC MR = some (MC', MR')) (K : zGo (zCm p l e room_1 s m args below meth c Q code 4 R_law tbL (zGL D ad ca A)) n k (1669, [(0, .inr (.inr (some (2200, 0)))), (1, .inr (.inr (some (11, 0)))), (2, .inr (.inr (some (12, 0)))), (3, .inl x3)], [], zmix MC' MR')) : zGo (zCm p l e room_1 s m args below meth c Q code 4 R_law tbL (zGL D ad ca A)) n k (537, [(0, .inr (.inr (some (2200, 0)))), (1, .inr (.inr (some (11, 0)))), (2, .inr (.inr (some (12, 0)))), (3, .inl x3)], [], zmix MC MR) := by
  unfold mL_9 at h
  refine zblq Z rfl [(.aload 1, 1), (.aload 0, 1), (.iload 3, 1), (.iconst 1, 1), (.iadd, 1)] (S' := (542, [(0, .inr (.inr (some (2200, 0)))), (1, .inr (.inr (some (11, 0)))), (2, .inr (.inr (some (12, 0)))), (3, .inl x3)], [.inl (x3 + (1 : Int32)), .inr (.inr (some (2200, 0))), .inr (.inr (some (11, 0)))], _)) (b := true) (by decide +kernel) rfl rfl ?_
  obtain ⟨hg77, h⟩ := zgd_inv h
  refine c_sld Z hX hg77 (by decide +kernel) ?_
  refine zblq Z rfl [(.aload 0, 1), (.iload 3, 1), (.iconst 2, 1), (.iadd, 1)] (S' := (547, [(0, .inr (.inr (some (2200, 0)))), (1, .inr (.inr (some (11, 0)))), (2, .inr (.inr (some (12, 0)))), (3, .inl x3)], [.inl (x3 + (2 : Int32)), .inr (.inr (some (2200, 0))), .inl (xs (nx (x3 + (1 : Int32)))), .inr (.inr (some (11, 0)))], _)) (b := true) (by decide +kernel) rfl rfl ?_
  obtain ⟨hg78, h⟩ := zgd_inv h
  refine c_sld Z hX hg78 (by decide +kernel) ?_
  obtain ⟨r79, MC79, hc79, h⟩ := zbd_inv h
  refine lw_callC hW Z (as := [.inl (xs (nx (x3 + (1 : Int32)))), .inl (xs (nx (x3 + (2 : Int32))))]) (st := []) (m11_say_met (zGC_ok hW) rfl hc79) cwL_54 m11_say_in m11_say_se rfl ⟨by exact Nat.le_of_ble_eq_true rfl, by exact Nat.le_of_ble_eq_true rfl⟩ rfl (by decide +kernel) hnk ?_
  refine zblq Z rfl [(.aload 2, 1), (.aload 0, 1), (.iload 3, 1), (.iconst 1, 1), (.iadd, 1)] (S' := (556, [(0, .inr (.inr (some (2200, 0)))), (1, .inr (.inr (some (11, 0)))), (2, .inr (.inr (some (12, 0)))), (3, .inl x3)], [.inl (x3 + (1 : Int32)), .inr (.inr (some (2200, 0))), .inr (.inr (some (12, 0))), .inl r79], _)) (b := true) (by decide +kernel) rfl rfl ?_
  obtain ⟨hg80, h⟩ := zgd_inv h
  refine c_sld Z hX hg80 (by decide +kernel) ?_
  refine zblq Z rfl [(.aload 0, 1), (.iload 3, 1), (.iconst 2, 1), (.iadd, 1)] (S' := (561, [(0, .inr (.inr (some (2200, 0)))), (1, .inr (.inr (some (11, 0)))), (2, .inr (.inr (some (12, 0)))), (3, .inl x3)], [.inl (x3 + (2 : Int32)), .inr (.inr (some (2200, 0))), .inl (xs (nx (x3 + (1 : Int32)))), .inr (.inr (some (12, 0))), .inl r79], _)) (b := true) (by decide +kernel) rfl rfl ?_
  obtain ⟨hg81, h⟩ := zgd_inv h
  refine c_sld Z hX hg81 (by decide +kernel) ?_
  obtain ⟨r82, MR82, hc82, h⟩ := zbd_inv h
  refine lw_callR hW Z (as := [.inl (xs (nx (x3 + (1 : Int32)))), .inl (xs (nx (x3 + (2 : Int32))))]) (st := [.inl r79]) (m12_say_met (zGR_ok hW) rfl hc82) cwL_57 m12_say_in m12_say_se rfl ⟨by exact Nat.le_of_ble_eq_true rfl, by exact Nat.le_of_ble_eq_true rfl⟩ rfl (by decide +kernel) hnk ?_
  refine zic_eq Z (off := 1104) (tgt := 1669) (by decide +kernel) (by decide) (fun hb83 => ?_) (fun hb83 => ?_)
  · replace h := zite_t h hb83
    cases h
    exact K
  · replace h := zite_f h hb83
    cases h
def mL_10 (L : Nat) (xs : Nat → Int32) (x3 : Int32) (MC : cM) (MR : rM) : Option (cM × rM) := zgd (zin (x3 + (1 : Int32)) L) (zbd (m11_ticks (xs (nx (x3 + (1 : Int32)))) MC) (fun r85 MC85 => zgd (zin (x3 + (1 : Int32)) L) (zbd (m12_ticks (xs (nx (x3 + (1 : Int32)))) MR) (fun r87 MR87 => (if r85 = r87 then some (MC85, MR87) else none)))))
set_option maxHeartbeats 4000000 in
theorem mL_10_ok {p : Program} {l : Launch} {e : Env} {s : State} {m : MethodId} {args : Array Value} {below : List Frame} {meth : Method} {c : Code} {Q : State → Prop} {D : va_G} {ad : zR → Nat} {ca : Nat → ClassId} {A : Nat → Prop} {base n k : Nat} {L : Nat} {xs : Nat → Int32} {x3 : Int32} {MC MC' : cM} {MR MR' : rM} (hW : zWh zUA base ad A) (Z : zOK (zCm p l e room_1 s m args below meth c Q code 4 R_law tbL (zGL D ad ca A))) (hX : va_X (ad (2200, 0)) L xs s s.heap ∧ ad (2200, 0) < s.heap.size ∧ ¬ A (ad (2200, 0))) (hnk : n ≤ room_1.cells ∧ k ≤ room_1.slots) (h : mL_10 L xs x3 MC MR = some (MC', MR')) (K : zGo (zCm p l e room_1 s m args below meth c Q code 4 R_law tbL (zGL D ad ca A)) n k (1669, [(0, .inr (.inr (some (2200, 0)))), (1, .inr (.inr (some (11, 0)))), (2, .inr (.inr (some (12, 0)))), (3, .inl x3)], [], zmix MC' MR')) : zGo (zCm p l e room_1 s m args below meth c Q code 4 R_law tbL (zGL D ad ca A)) n k (570, [(0, .inr (.inr (some (2200, 0)))), (1, .inr (.inr (some (11, 0)))), (2, .inr (.inr (some (12, 0)))), (3, .inl x3)], [], zmix MC MR) := by
  unfold mL_10 at h
  refine zblq Z rfl [(.aload 1, 1), (.aload 0, 1), (.iload 3, 1), (.iconst 1, 1), (.iadd, 1)] (S' := (575, [(0, .inr (.inr (some (2200, 0)))), (1, .inr (.inr (some (11, 0)))), (2, .inr (.inr (some (12, 0)))), (3, .inl x3)], [.inl (x3 + (1 : Int32)), .inr (.inr (some (2200, 0))), .inr (.inr (some (11, 0)))], _)) (b := true) (by decide +kernel) rfl rfl ?_
  obtain ⟨hg84, h⟩ := zgd_inv h
  refine c_sld Z hX hg84 (by decide +kernel) ?_
  obtain ⟨r85, MC85, hc85, h⟩ := zbd_inv h
  refine lw_callC hW Z (as := [.inl (xs (nx (x3 + (1 : Int32))))]) (st := []) (m11_ticks_met (zGC_ok hW) rfl hc85) cwL_58 m11_ticks_in m11_ticks_se rfl ⟨by exact Nat.le_of_ble_eq_true rfl, by exact Nat.le_of_ble_eq_true rfl⟩ rfl (by decide +kernel) hnk ?_
  refine zblq Z rfl [(.aload 2, 1), (.aload 0, 1), (.iload 3, 1), (.iconst 1, 1), (.iadd, 1)] (S' := (584, [(0, .inr (.inr (some (2200, 0)))), (1, .inr (.inr (some (11, 0)))), (2, .inr (.inr (some (12, 0)))), (3, .inl x3)], [.inl (x3 + (1 : Int32)), .inr (.inr (some (2200, 0))), .inr (.inr (some (12, 0))), .inl r85], _)) (b := true) (by decide +kernel) rfl rfl ?_
  obtain ⟨hg86, h⟩ := zgd_inv h
  refine c_sld Z hX hg86 (by decide +kernel) ?_
  obtain ⟨r87, MR87, hc87, h⟩ := zbd_inv h
  refine lw_callR hW Z (as := [.inl (xs (nx (x3 + (1 : Int32))))]) (st := [.inl r85]) (m12_ticks_met (zGR_ok hW) rfl hc87) cwL_61 m12_ticks_in m12_ticks_se rfl ⟨by exact Nat.le_of_ble_eq_true rfl, by exact Nat.le_of_ble_eq_true rfl⟩ rfl (by decide +kernel) hnk ?_
  refine zic_eq Z (off := 1081) (tgt := 1669) (by decide +kernel) (by decide) (fun hb88 => ?_) (fun hb88 => ?_)
  · replace h := zite_t h hb88
    cases h
    exact K
  · replace h := zite_f h hb88
    cases h
def mL_11 (L : Nat) (xs : Nat → Int32) (x3 : Int32) (MC : cM) (MR : rM) : Option (cM × rM) := zgd (zin (x3 + (1 : Int32)) L) (zbd (m11_lost (xs (nx (x3 + (1 : Int32)))) MC) (fun r90 MC90 => zgd (zin (x3 + (1 : Int32)) L) (zbd (m12_lost (xs (nx (x3 + (1 : Int32)))) MR) (fun r92 MR92 => (if r90 = r92 then some (MC90, MR92) else none)))))
set_option maxHeartbeats 4000000 in
theorem mL_11_ok {p : Program} {l : Launch} {e : Env} {s : State} {m : MethodId} {args : Array Value} {below : List Frame} {meth : Method} {c : Code} {Q : State → Prop} {D : va_G} {ad : zR → Nat} {ca : Nat → ClassId} {A : Nat → Prop} {base n k : Nat} {L : Nat} {xs : Nat → Int32} {x3 : Int32} {MC MC' : cM} {MR MR' : rM} (hW : zWh zUA base ad A) (Z : zOK (zCm p l e room_1 s m args below meth c Q code 4 R_law tbL (zGL D ad ca A))) (hX : va_X (ad (2200, 0)) L xs s s.heap ∧ ad (2200, 0) < s.heap.size ∧ ¬ A (ad (2200, 0))) (hnk : n ≤ room_1.cells ∧ k ≤ room_1.slots) (h : mL_11 L xs x3 MC MR = some (MC', MR')) (K : zGo (zCm p l e room_1 s m args below meth c Q code 4 R_law tbL (zGL D ad ca A)) n k (1669, [(0, .inr (.inr (some (2200, 0)))), (1, .inr (.inr (some (11, 0)))), (2, .inr (.inr (some (12, 0)))), (3, .inl x3)], [], zmix MC' MR')) : zGo (zCm p l e room_1 s m args below meth c Q code 4 R_law tbL (zGL D ad ca A)) n k (593, [(0, .inr (.inr (some (2200, 0)))), (1, .inr (.inr (some (11, 0)))), (2, .inr (.inr (some (12, 0)))), (3, .inl x3)], [], zmix MC MR) := by
  unfold mL_11 at h
  refine zblq Z rfl [(.aload 1, 1), (.aload 0, 1), (.iload 3, 1), (.iconst 1, 1), (.iadd, 1)] (S' := (598, [(0, .inr (.inr (some (2200, 0)))), (1, .inr (.inr (some (11, 0)))), (2, .inr (.inr (some (12, 0)))), (3, .inl x3)], [.inl (x3 + (1 : Int32)), .inr (.inr (some (2200, 0))), .inr (.inr (some (11, 0)))], _)) (b := true) (by decide +kernel) rfl rfl ?_
  obtain ⟨hg89, h⟩ := zgd_inv h
  refine c_sld Z hX hg89 (by decide +kernel) ?_
  obtain ⟨r90, MC90, hc90, h⟩ := zbd_inv h
  refine lw_callC hW Z (as := [.inl (xs (nx (x3 + (1 : Int32))))]) (st := []) (m11_lost_met (zGC_ok hW) rfl hc90) cwL_62 m11_lost_in m11_lost_se rfl ⟨by exact Nat.le_of_ble_eq_true rfl, by exact Nat.le_of_ble_eq_true rfl⟩ rfl (by decide +kernel) hnk ?_
  refine zblq Z rfl [(.aload 2, 1), (.aload 0, 1), (.iload 3, 1), (.iconst 1, 1), (.iadd, 1)] (S' := (607, [(0, .inr (.inr (some (2200, 0)))), (1, .inr (.inr (some (11, 0)))), (2, .inr (.inr (some (12, 0)))), (3, .inl x3)], [.inl (x3 + (1 : Int32)), .inr (.inr (some (2200, 0))), .inr (.inr (some (12, 0))), .inl r90], _)) (b := true) (by decide +kernel) rfl rfl ?_
  obtain ⟨hg91, h⟩ := zgd_inv h
  refine c_sld Z hX hg91 (by decide +kernel) ?_
  obtain ⟨r92, MR92, hc92, h⟩ := zbd_inv h
  refine lw_callR hW Z (as := [.inl (xs (nx (x3 + (1 : Int32))))]) (st := [.inl r90]) (m12_lost_met (zGR_ok hW) rfl hc92) cwL_65 m12_lost_in m12_lost_se rfl ⟨by exact Nat.le_of_ble_eq_true rfl, by exact Nat.le_of_ble_eq_true rfl⟩ rfl (by decide +kernel) hnk ?_
  refine zic_eq Z (off := 1058) (tgt := 1669) (by decide +kernel) (by decide) (fun hb93 => ?_) (fun hb93 => ?_)
  · replace h := zite_t h hb93
    cases h
    exact K
  · replace h := zite_f h hb93
    cases h
def mL_12 (L : Nat) (xs : Nat → Int32) (x3 : Int32) (MC : cM) (MR : rM) : Option (cM × rM) := zgd (zin (x3 + (1 : Int32)) L) (zbd (m11_kept (xs (nx (x3 + (1 : Int32)))) MC) (fun r95 MC95 => zgd (zin (x3 + (1 : Int32)) L) (zbd (m12_kept (xs (nx (x3 + (1 : Int32)))) MR) (fun r97 MR97 => (if r95 = r97 then some (MC95, MR97) else none)))))
set_option maxHeartbeats 4000000 in
theorem mL_12_ok {p : Program} {l : Launch} {e : Env} {s : State} {m : MethodId} {args : Array Value} {below : List Frame} {meth : Method} {c : Code} {Q : State → Prop} {D : va_G} {ad : zR → Nat} {ca : Nat → ClassId} {A : Nat → Prop} {base n k : Nat} {L : Nat} {xs : Nat → Int32} {x3 : Int32} {MC MC' : cM} {MR MR' : rM} (hW : zWh zUA base ad A) (Z : zOK (zCm p l e room_1 s m args below meth c Q code 4 R_law tbL (zGL D ad ca A))) (hX : va_X (ad (2200, 0)) L xs s s.heap ∧ ad (2200, 0) < s.heap.size ∧ ¬ A (ad (2200, 0))) (hnk : n ≤ room_1.cells ∧ k ≤ room_1.slots) (h : mL_12 L xs x3 MC MR = some (MC', MR')) (K : zGo (zCm p l e room_1 s m args below meth c Q code 4 R_law tbL (zGL D ad ca A)) n k (1669, [(0, .inr (.inr (some (2200, 0)))), (1, .inr (.inr (some (11, 0)))), (2, .inr (.inr (some (12, 0)))), (3, .inl x3)], [], zmix MC' MR')) : zGo (zCm p l e room_1 s m args below meth c Q code 4 R_law tbL (zGL D ad ca A)) n k (616, [(0, .inr (.inr (some (2200, 0)))), (1, .inr (.inr (some (11, 0)))), (2, .inr (.inr (some (12, 0)))), (3, .inl x3)], [], zmix MC MR) := by
  unfold mL_12 at h
  refine zblq Z rfl [(.aload 1, 1), (.aload 0, 1), (.iload 3, 1), (.iconst 1, 1), (.iadd, 1)] (S' := (621, [(0, .inr (.inr (some (2200, 0)))), (1, .inr (.inr (some (11, 0)))), (2, .inr (.inr (some (12, 0)))), (3, .inl x3)], [.inl (x3 + (1 : Int32)), .inr (.inr (some (2200, 0))), .inr (.inr (some (11, 0)))], _)) (b := true) (by decide +kernel) rfl rfl ?_
  obtain ⟨hg94, h⟩ := zgd_inv h
  refine c_sld Z hX hg94 (by decide +kernel) ?_
  obtain ⟨r95, MC95, hc95, h⟩ := zbd_inv h
  refine lw_callC hW Z (as := [.inl (xs (nx (x3 + (1 : Int32))))]) (st := []) (m11_kept_met (zGC_ok hW) rfl hc95) cwL_66 m11_kept_in m11_kept_se rfl ⟨by exact Nat.le_of_ble_eq_true rfl, by exact Nat.le_of_ble_eq_true rfl⟩ rfl (by decide +kernel) hnk ?_
  refine zblq Z rfl [(.aload 2, 1), (.aload 0, 1), (.iload 3, 1), (.iconst 1, 1), (.iadd, 1)] (S' := (630, [(0, .inr (.inr (some (2200, 0)))), (1, .inr (.inr (some (11, 0)))), (2, .inr (.inr (some (12, 0)))), (3, .inl x3)], [.inl (x3 + (1 : Int32)), .inr (.inr (some (2200, 0))), .inr (.inr (some (12, 0))), .inl r95], _)) (b := true) (by decide +kernel) rfl rfl ?_
  obtain ⟨hg96, h⟩ := zgd_inv h
  refine c_sld Z hX hg96 (by decide +kernel) ?_
  obtain ⟨r97, MR97, hc97, h⟩ := zbd_inv h
  refine lw_callR hW Z (as := [.inl (xs (nx (x3 + (1 : Int32))))]) (st := [.inl r95]) (m12_kept_met (zGR_ok hW) rfl hc97) cwL_69 m12_kept_in m12_kept_se rfl ⟨by exact Nat.le_of_ble_eq_true rfl, by exact Nat.le_of_ble_eq_true rfl⟩ rfl (by decide +kernel) hnk ?_
  refine zic_eq Z (off := 1035) (tgt := 1669) (by decide +kernel) (by decide) (fun hb98 => ?_) (fun hb98 => ?_)
  · replace h := zite_t h hb98
    cases h
    exact K
  · replace h := zite_f h hb98
    cases h
def mL_13 (L : Nat) (xs : Nat → Int32) (x3 : Int32) (MC : cM) (MR : rM) : Option (cM × rM) := zgd (zin (x3 + (1 : Int32)) L) (zgd (zin (x3 + (2 : Int32)) L) (zgd (zin (x3 + (3 : Int32)) L) (zbd (m11_write ((zshlL (Int32.toInt64 (xs (nx (x3 + (1 : Int32))))) (32 : Int32)) ||| ((Int32.toInt64 (xs (nx (x3 + (2 : Int32))))) &&& (4294967295 : Int64))) (xs (nx (x3 + (3 : Int32)))) MC) (fun r102 MC102 => zgd (zin (x3 + (1 : Int32)) L) (zgd (zin (x3 + (2 : Int32)) L) (zgd (zin (x3 + (3 : Int32)) L) (zbd (m12_write ((zshlL (Int32.toInt64 (xs (nx (x3 + (1 : Int32))))) (32 : Int32)) ||| ((Int32.toInt64 (xs (nx (x3 + (2 : Int32))))) &&& (4294967295 : Int64))) (xs (nx (x3 + (3 : Int32)))) MR) (fun r106 MR106 => (if r102 = r106 then some (MC102, MR106) else none)))))))))
set_option maxHeartbeats 4000000 in
theorem mL_13_ok {p : Program} {l : Launch} {e : Env} {s : State} {m : MethodId} {args : Array Value} {below : List Frame} {meth : Method} {c : Code} {Q : State → Prop} {D : va_G} {ad : zR → Nat} {ca : Nat → ClassId} {A : Nat → Prop} {base n k : Nat} {L : Nat} {xs : Nat → Int32} {x3 : Int32} {MC MC' : cM} {MR MR' : rM} (hW : zWh zUA base ad A) (Z : zOK (zCm p l e room_1 s m args below meth c Q code 4 R_law tbL (zGL D ad ca A))) (hX : va_X (ad (2200, 0)) L xs s s.heap ∧ ad (2200, 0) < s.heap.size ∧ ¬ A (ad (2200, 0))) (hnk : n ≤ room_1.cells ∧ k ≤ room_1.slots) (h : mL_13 L xs x3 MC MR = some (MC', MR')) (K : zGo (zCm p l e room_1 s m args below meth c Q code 4 R_law tbL (zGL D ad ca A)) n k (1669, [(0, .inr (.inr (some (2200, 0)))), (1, .inr (.inr (some (11, 0)))), (2, .inr (.inr (some (12, 0)))), (3, .inl x3)], [], zmix MC' MR')) : zGo (zCm p l e room_1 s m args below meth c Q code 4 R_law tbL (zGL D ad ca A)) n k (639, [(0, .inr (.inr (some (2200, 0)))), (1, .inr (.inr (some (11, 0)))), (2, .inr (.inr (some (12, 0)))), (3, .inl x3)], [], zmix MC MR) := by
  unfold mL_13 at h
  refine zblq Z rfl [(.aload 1, 1), (.aload 0, 1), (.iload 3, 1), (.iconst 1, 1), (.iadd, 1)] (S' := (644, [(0, .inr (.inr (some (2200, 0)))), (1, .inr (.inr (some (11, 0)))), (2, .inr (.inr (some (12, 0)))), (3, .inl x3)], [.inl (x3 + (1 : Int32)), .inr (.inr (some (2200, 0))), .inr (.inr (some (11, 0)))], _)) (b := true) (by decide +kernel) rfl rfl ?_
  obtain ⟨hg99, h⟩ := zgd_inv h
  refine c_sld Z hX hg99 (by decide +kernel) ?_
  refine zblq Z rfl [(.i2l, 1), (.iconst 32, 2), (.lshl, 1), (.aload 0, 1), (.iload 3, 1), (.iconst 2, 1), (.iadd, 1)] (S' := (653, [(0, .inr (.inr (some (2200, 0)))), (1, .inr (.inr (some (11, 0)))), (2, .inr (.inr (some (12, 0)))), (3, .inl x3)], [.inl (x3 + (2 : Int32)), .inr (.inr (some (2200, 0))), .inr (.inl (zshlL (Int32.toInt64 (xs (nx (x3 + (1 : Int32))))) (32 : Int32))), .inr (.inr (some (11, 0)))], _)) (b := true) (by decide +kernel) rfl rfl ?_
  obtain ⟨hg100, h⟩ := zgd_inv h
  refine c_sld Z hX hg100 (by decide +kernel) ?_
  refine zblq Z rfl [(.i2l, 1), (.goto_w 4294967295, 3), (.land, 1), (.lor, 1), (.aload 0, 1), (.iload 3, 1), (.iconst 3, 1), (.iadd, 1)] (S' := (664, [(0, .inr (.inr (some (2200, 0)))), (1, .inr (.inr (some (11, 0)))), (2, .inr (.inr (some (12, 0)))), (3, .inl x3)], [.inl (x3 + (3 : Int32)), .inr (.inr (some (2200, 0))), .inr (.inl ((zshlL (Int32.toInt64 (xs (nx (x3 + (1 : Int32))))) (32 : Int32)) ||| ((Int32.toInt64 (xs (nx (x3 + (2 : Int32))))) &&& (4294967295 : Int64)))), .inr (.inr (some (11, 0)))], _)) (b := true) (by decide +kernel) rfl rfl ?_
  obtain ⟨hg101, h⟩ := zgd_inv h
  refine c_sld Z hX hg101 (by decide +kernel) ?_
  obtain ⟨r102, MC102, hc102, h⟩ := zbd_inv h
  refine lw_callC hW Z (as := [.inr (.inl ((zshlL (Int32.toInt64 (xs (nx (x3 + (1 : Int32))))) (32 : Int32)) ||| ((Int32.toInt64 (xs (nx (x3 + (2 : Int32))))) &&& (4294967295 : Int64)))), .inl (xs (nx (x3 + (3 : Int32))))]) (st := []) (m11_write_met (zGC_ok hW) rfl hc102) cwL_72 m11_write_in m11_write_se rfl ⟨by exact Nat.le_of_ble_eq_true rfl, by exact Nat.le_of_ble_eq_true rfl⟩ rfl (by decide +kernel) hnk ?_
  refine zblq Z rfl [(.aload 2, 1), (.aload 0, 1), (.iload 3, 1), (.iconst 1, 1), (.iadd, 1)] (S' := (673, [(0, .inr (.inr (some (2200, 0)))), (1, .inr (.inr (some (11, 0)))), (2, .inr (.inr (some (12, 0)))), (3, .inl x3)], [.inl (x3 + (1 : Int32)), .inr (.inr (some (2200, 0))), .inr (.inr (some (12, 0))), .inl r102], _)) (b := true) (by decide +kernel) rfl rfl ?_
  obtain ⟨hg103, h⟩ := zgd_inv h
  refine c_sld Z hX hg103 (by decide +kernel) ?_
  refine zblq Z rfl [(.i2l, 1), (.iconst 32, 2), (.lshl, 1), (.aload 0, 1), (.iload 3, 1), (.iconst 2, 1), (.iadd, 1)] (S' := (682, [(0, .inr (.inr (some (2200, 0)))), (1, .inr (.inr (some (11, 0)))), (2, .inr (.inr (some (12, 0)))), (3, .inl x3)], [.inl (x3 + (2 : Int32)), .inr (.inr (some (2200, 0))), .inr (.inl (zshlL (Int32.toInt64 (xs (nx (x3 + (1 : Int32))))) (32 : Int32))), .inr (.inr (some (12, 0))), .inl r102], _)) (b := true) (by decide +kernel) rfl rfl ?_
  obtain ⟨hg104, h⟩ := zgd_inv h
  refine c_sld Z hX hg104 (by decide +kernel) ?_
  refine zblq Z rfl [(.i2l, 1), (.goto_w 4294967295, 3), (.land, 1), (.lor, 1), (.aload 0, 1), (.iload 3, 1), (.iconst 3, 1), (.iadd, 1)] (S' := (693, [(0, .inr (.inr (some (2200, 0)))), (1, .inr (.inr (some (11, 0)))), (2, .inr (.inr (some (12, 0)))), (3, .inl x3)], [.inl (x3 + (3 : Int32)), .inr (.inr (some (2200, 0))), .inr (.inl ((zshlL (Int32.toInt64 (xs (nx (x3 + (1 : Int32))))) (32 : Int32)) ||| ((Int32.toInt64 (xs (nx (x3 + (2 : Int32))))) &&& (4294967295 : Int64)))), .inr (.inr (some (12, 0))), .inl r102], _)) (b := true) (by decide +kernel) rfl rfl ?_
  obtain ⟨hg105, h⟩ := zgd_inv h
  refine c_sld Z hX hg105 (by decide +kernel) ?_
  obtain ⟨r106, MR106, hc106, h⟩ := zbd_inv h
  refine lw_callR hW Z (as := [.inr (.inl ((zshlL (Int32.toInt64 (xs (nx (x3 + (1 : Int32))))) (32 : Int32)) ||| ((Int32.toInt64 (xs (nx (x3 + (2 : Int32))))) &&& (4294967295 : Int64)))), .inl (xs (nx (x3 + (3 : Int32))))]) (st := [.inl r102]) (m12_write_met (zGR_ok hW) rfl hc106) cwL_76 m12_write_in m12_write_se rfl ⟨by exact Nat.le_of_ble_eq_true rfl, by exact Nat.le_of_ble_eq_true rfl⟩ rfl (by decide +kernel) hnk ?_
  refine zic_eq Z (off := 972) (tgt := 1669) (by decide +kernel) (by decide) (fun hb107 => ?_) (fun hb107 => ?_)
  · replace h := zite_t h hb107
    cases h
    exact K
  · replace h := zite_f h hb107
    cases h
def mL_14 (L : Nat) (xs : Nat → Int32) (x3 : Int32) (MC : cM) (MR : rM) : Option (cM × rM) := zbd (m11_erase MC) (fun r108 MC108 => zbd (m12_erase MR) (fun r109 MR109 => (if r108 = r109 then some (MC108, MR109) else none)))
set_option maxHeartbeats 4000000 in
theorem mL_14_ok {p : Program} {l : Launch} {e : Env} {s : State} {m : MethodId} {args : Array Value} {below : List Frame} {meth : Method} {c : Code} {Q : State → Prop} {D : va_G} {ad : zR → Nat} {ca : Nat → ClassId} {A : Nat → Prop} {base n k : Nat} {L : Nat} {xs : Nat → Int32} {x3 : Int32} {MC MC' : cM} {MR MR' : rM} (hW : zWh zUA base ad A) (Z : zOK (zCm p l e room_1 s m args below meth c Q code 4 R_law tbL (zGL D ad ca A))) (hX : va_X (ad (2200, 0)) L xs s s.heap ∧ ad (2200, 0) < s.heap.size ∧ ¬ A (ad (2200, 0))) (hnk : n ≤ room_1.cells ∧ k ≤ room_1.slots) (h : mL_14 L xs x3 MC MR = some (MC', MR')) (K : zGo (zCm p l e room_1 s m args below meth c Q code 4 R_law tbL (zGL D ad ca A)) n k (1669, [(0, .inr (.inr (some (2200, 0)))), (1, .inr (.inr (some (11, 0)))), (2, .inr (.inr (some (12, 0)))), (3, .inl x3)], [], zmix MC' MR')) : zGo (zCm p l e room_1 s m args below meth c Q code 4 R_law tbL (zGL D ad ca A)) n k (702, [(0, .inr (.inr (some (2200, 0)))), (1, .inr (.inr (some (11, 0)))), (2, .inr (.inr (some (12, 0)))), (3, .inl x3)], [], zmix MC MR) := by
  unfold mL_14 at h
  refine zblq Z rfl [(.aload 1, 1)] (S' := (703, [(0, .inr (.inr (some (2200, 0)))), (1, .inr (.inr (some (11, 0)))), (2, .inr (.inr (some (12, 0)))), (3, .inl x3)], [.inr (.inr (some (11, 0)))], _)) (b := true) (by decide +kernel) rfl rfl ?_
  obtain ⟨r108, MC108, hc108, h⟩ := zbd_inv h
  refine lw_callC hW Z (as := []) (st := []) (m11_erase_met (zGC_ok hW) rfl hc108) cwL_77 m11_erase_in m11_erase_se rfl ⟨by exact Nat.le_of_ble_eq_true rfl, by exact Nat.le_of_ble_eq_true rfl⟩ rfl (by decide +kernel) hnk ?_
  refine zblq Z rfl [(.aload 2, 1)] (S' := (707, [(0, .inr (.inr (some (2200, 0)))), (1, .inr (.inr (some (11, 0)))), (2, .inr (.inr (some (12, 0)))), (3, .inl x3)], [.inr (.inr (some (12, 0))), .inl r108], _)) (b := true) (by decide +kernel) rfl rfl ?_
  obtain ⟨r109, MR109, hc109, h⟩ := zbd_inv h
  refine lw_callR hW Z (as := []) (st := [.inl r108]) (m12_erase_met (zGR_ok hW) rfl hc109) cwL_80 m12_erase_in m12_erase_se rfl ⟨by exact Nat.le_of_ble_eq_true rfl, by exact Nat.le_of_ble_eq_true rfl⟩ rfl (by decide +kernel) hnk ?_
  refine zic_eq Z (off := 959) (tgt := 1669) (by decide +kernel) (by decide) (fun hb110 => ?_) (fun hb110 => ?_)
  · replace h := zite_t h hb110
    cases h
    exact K
  · replace h := zite_f h hb110
    cases h
def mL_15 (L : Nat) (xs : Nat → Int32) (x3 : Int32) (MC : cM) (MR : rM) : Option (cM × rM) := zbd (m11_fault MC) (fun r111 MC111 => zbd (m12_fault MR) (fun r112 MR112 => (if r111 = r112 then some (MC111, MR112) else none)))
set_option maxHeartbeats 4000000 in
theorem mL_15_ok {p : Program} {l : Launch} {e : Env} {s : State} {m : MethodId} {args : Array Value} {below : List Frame} {meth : Method} {c : Code} {Q : State → Prop} {D : va_G} {ad : zR → Nat} {ca : Nat → ClassId} {A : Nat → Prop} {base n k : Nat} {L : Nat} {xs : Nat → Int32} {x3 : Int32} {MC MC' : cM} {MR MR' : rM} (hW : zWh zUA base ad A) (Z : zOK (zCm p l e room_1 s m args below meth c Q code 4 R_law tbL (zGL D ad ca A))) (hX : va_X (ad (2200, 0)) L xs s s.heap ∧ ad (2200, 0) < s.heap.size ∧ ¬ A (ad (2200, 0))) (hnk : n ≤ room_1.cells ∧ k ≤ room_1.slots) (h : mL_15 L xs x3 MC MR = some (MC', MR')) (K : zGo (zCm p l e room_1 s m args below meth c Q code 4 R_law tbL (zGL D ad ca A)) n k (1669, [(0, .inr (.inr (some (2200, 0)))), (1, .inr (.inr (some (11, 0)))), (2, .inr (.inr (some (12, 0)))), (3, .inl x3)], [], zmix MC' MR')) : zGo (zCm p l e room_1 s m args below meth c Q code 4 R_law tbL (zGL D ad ca A)) n k (715, [(0, .inr (.inr (some (2200, 0)))), (1, .inr (.inr (some (11, 0)))), (2, .inr (.inr (some (12, 0)))), (3, .inl x3)], [], zmix MC MR) := by
  unfold mL_15 at h
  refine zblq Z rfl [(.aload 1, 1)] (S' := (716, [(0, .inr (.inr (some (2200, 0)))), (1, .inr (.inr (some (11, 0)))), (2, .inr (.inr (some (12, 0)))), (3, .inl x3)], [.inr (.inr (some (11, 0)))], _)) (b := true) (by decide +kernel) rfl rfl ?_
  obtain ⟨r111, MC111, hc111, h⟩ := zbd_inv h
  refine lw_callC hW Z (as := []) (st := []) (m11_fault_met (zGC_ok hW) rfl hc111) cwL_81 m11_fault_in m11_fault_se rfl ⟨by exact Nat.le_of_ble_eq_true rfl, by exact Nat.le_of_ble_eq_true rfl⟩ rfl (by decide +kernel) hnk ?_
  refine zblq Z rfl [(.aload 2, 1)] (S' := (720, [(0, .inr (.inr (some (2200, 0)))), (1, .inr (.inr (some (11, 0)))), (2, .inr (.inr (some (12, 0)))), (3, .inl x3)], [.inr (.inr (some (12, 0))), .inl r111], _)) (b := true) (by decide +kernel) rfl rfl ?_
  obtain ⟨r112, MR112, hc112, h⟩ := zbd_inv h
  refine lw_callR hW Z (as := []) (st := [.inl r111]) (m12_fault_met (zGR_ok hW) rfl hc112) cwL_84 m12_fault_in m12_fault_se rfl ⟨by exact Nat.le_of_ble_eq_true rfl, by exact Nat.le_of_ble_eq_true rfl⟩ rfl (by decide +kernel) hnk ?_
  refine zic_eq Z (off := 946) (tgt := 1669) (by decide +kernel) (by decide) (fun hb113 => ?_) (fun hb113 => ?_)
  · replace h := zite_t h hb113
    cases h
    exact K
  · replace h := zite_f h hb113
    cases h
def mL_16 (L : Nat) (xs : Nat → Int32) (x3 : Int32) (MC : cM) (MR : rM) : Option (cM × rM) := zbd (m11_ask MC) (fun r114 MC114 => zbd (m12_ask MR) (fun r115 MR115 => (if r114 = r115 then some (MC114, MR115) else none)))
set_option maxHeartbeats 4000000 in
theorem mL_16_ok {p : Program} {l : Launch} {e : Env} {s : State} {m : MethodId} {args : Array Value} {below : List Frame} {meth : Method} {c : Code} {Q : State → Prop} {D : va_G} {ad : zR → Nat} {ca : Nat → ClassId} {A : Nat → Prop} {base n k : Nat} {L : Nat} {xs : Nat → Int32} {x3 : Int32} {MC MC' : cM} {MR MR' : rM} (hW : zWh zUA base ad A) (Z : zOK (zCm p l e room_1 s m args below meth c Q code 4 R_law tbL (zGL D ad ca A))) (hX : va_X (ad (2200, 0)) L xs s s.heap ∧ ad (2200, 0) < s.heap.size ∧ ¬ A (ad (2200, 0))) (hnk : n ≤ room_1.cells ∧ k ≤ room_1.slots) (h : mL_16 L xs x3 MC MR = some (MC', MR')) (K : zGo (zCm p l e room_1 s m args below meth c Q code 4 R_law tbL (zGL D ad ca A)) n k (1669, [(0, .inr (.inr (some (2200, 0)))), (1, .inr (.inr (some (11, 0)))), (2, .inr (.inr (some (12, 0)))), (3, .inl x3)], [], zmix MC' MR')) : zGo (zCm p l e room_1 s m args below meth c Q code 4 R_law tbL (zGL D ad ca A)) n k (728, [(0, .inr (.inr (some (2200, 0)))), (1, .inr (.inr (some (11, 0)))), (2, .inr (.inr (some (12, 0)))), (3, .inl x3)], [], zmix MC MR) := by
  unfold mL_16 at h
  refine zblq Z rfl [(.aload 1, 1)] (S' := (729, [(0, .inr (.inr (some (2200, 0)))), (1, .inr (.inr (some (11, 0)))), (2, .inr (.inr (some (12, 0)))), (3, .inl x3)], [.inr (.inr (some (11, 0)))], _)) (b := true) (by decide +kernel) rfl rfl ?_
  obtain ⟨r114, MC114, hc114, h⟩ := zbd_inv h
  refine lw_callC hW Z (as := []) (st := []) (m11_ask_met (zGC_ok hW) rfl hc114) cwL_85 m11_ask_in m11_ask_se rfl ⟨by exact Nat.le_of_ble_eq_true rfl, by exact Nat.le_of_ble_eq_true rfl⟩ rfl (by decide +kernel) hnk ?_
  refine zblq Z rfl [(.aload 2, 1)] (S' := (733, [(0, .inr (.inr (some (2200, 0)))), (1, .inr (.inr (some (11, 0)))), (2, .inr (.inr (some (12, 0)))), (3, .inl x3)], [.inr (.inr (some (12, 0))), .inl r114], _)) (b := true) (by decide +kernel) rfl rfl ?_
  obtain ⟨r115, MR115, hc115, h⟩ := zbd_inv h
  refine lw_callR hW Z (as := []) (st := [.inl r114]) (m12_ask_met (zGR_ok hW) rfl hc115) cwL_88 m12_ask_in m12_ask_se rfl ⟨by exact Nat.le_of_ble_eq_true rfl, by exact Nat.le_of_ble_eq_true rfl⟩ rfl (by decide +kernel) hnk ?_
  refine zic_eq Z (off := 933) (tgt := 1669) (by decide +kernel) (by decide) (fun hb116 => ?_) (fun hb116 => ?_)
  · replace h := zite_t h hb116
    cases h
    exact K
  · replace h := zite_f h hb116
    cases h
def mL_17 (L : Nat) (xs : Nat → Int32) (x3 : Int32) (MC : cM) (MR : rM) : Option (cM × rM) := zgd (zin (x3 + (1 : Int32)) L) (zgd (zin (x3 + (2 : Int32)) L) (zgd (zin (x3 + (3 : Int32)) L) (zbd (m11_loud (xs (nx (x3 + (1 : Int32)))) (xs (nx (x3 + (2 : Int32)))) (xs (nx (x3 + (3 : Int32)))) MC) (fun r120 MC120 => zgd (zin (x3 + (1 : Int32)) L) (zgd (zin (x3 + (2 : Int32)) L) (zgd (zin (x3 + (3 : Int32)) L) (zbd (m12_loud (xs (nx (x3 + (1 : Int32)))) (xs (nx (x3 + (2 : Int32)))) (xs (nx (x3 + (3 : Int32)))) MR) (fun r124 MR124 => (if r120 = r124 then some (MC120, MR124) else none)))))))))
set_option maxHeartbeats 4000000 in
theorem mL_17_ok {p : Program} {l : Launch} {e : Env} {s : State} {m : MethodId} {args : Array Value} {below : List Frame} {meth : Method} {c : Code} {Q : State → Prop} {D : va_G} {ad : zR → Nat} {ca : Nat → ClassId} {A : Nat → Prop} {base n k : Nat} {L : Nat} {xs : Nat → Int32} {x3 : Int32} {MC MC' : cM} {MR MR' : rM} (hW : zWh zUA base ad A) (Z : zOK (zCm p l e room_1 s m args below meth c Q code 4 R_law tbL (zGL D ad ca A))) (hX : va_X (ad (2200, 0)) L xs s s.heap ∧ ad (2200, 0) < s.heap.size ∧ ¬ A (ad (2200, 0))) (hnk : n ≤ room_1.cells ∧ k ≤ room_1.slots) (h : mL_17 L xs x3 MC MR = some (MC', MR')) (K : zGo (zCm p l e room_1 s m args below meth c Q code 4 R_law tbL (zGL D ad ca A)) n k (1669, [(0, .inr (.inr (some (2200, 0)))), (1, .inr (.inr (some (11, 0)))), (2, .inr (.inr (some (12, 0)))), (3, .inl x3)], [], zmix MC' MR')) : zGo (zCm p l e room_1 s m args below meth c Q code 4 R_law tbL (zGL D ad ca A)) n k (741, [(0, .inr (.inr (some (2200, 0)))), (1, .inr (.inr (some (11, 0)))), (2, .inr (.inr (some (12, 0)))), (3, .inl x3)], [], zmix MC MR) := by
  unfold mL_17 at h
  refine zblq Z rfl [(.aload 1, 1), (.aload 0, 1), (.iload 3, 1), (.iconst 1, 1), (.iadd, 1)] (S' := (746, [(0, .inr (.inr (some (2200, 0)))), (1, .inr (.inr (some (11, 0)))), (2, .inr (.inr (some (12, 0)))), (3, .inl x3)], [.inl (x3 + (1 : Int32)), .inr (.inr (some (2200, 0))), .inr (.inr (some (11, 0)))], _)) (b := true) (by decide +kernel) rfl rfl ?_
  obtain ⟨hg117, h⟩ := zgd_inv h
  refine c_sld Z hX hg117 (by decide +kernel) ?_
  refine zblq Z rfl [(.aload 0, 1), (.iload 3, 1), (.iconst 2, 1), (.iadd, 1)] (S' := (751, [(0, .inr (.inr (some (2200, 0)))), (1, .inr (.inr (some (11, 0)))), (2, .inr (.inr (some (12, 0)))), (3, .inl x3)], [.inl (x3 + (2 : Int32)), .inr (.inr (some (2200, 0))), .inl (xs (nx (x3 + (1 : Int32)))), .inr (.inr (some (11, 0)))], _)) (b := true) (by decide +kernel) rfl rfl ?_
  obtain ⟨hg118, h⟩ := zgd_inv h
  refine c_sld Z hX hg118 (by decide +kernel) ?_
  refine zblq Z rfl [(.aload 0, 1), (.iload 3, 1), (.iconst 3, 1), (.iadd, 1)] (S' := (756, [(0, .inr (.inr (some (2200, 0)))), (1, .inr (.inr (some (11, 0)))), (2, .inr (.inr (some (12, 0)))), (3, .inl x3)], [.inl (x3 + (3 : Int32)), .inr (.inr (some (2200, 0))), .inl (xs (nx (x3 + (2 : Int32)))), .inl (xs (nx (x3 + (1 : Int32)))), .inr (.inr (some (11, 0)))], _)) (b := true) (by decide +kernel) rfl rfl ?_
  obtain ⟨hg119, h⟩ := zgd_inv h
  refine c_sld Z hX hg119 (by decide +kernel) ?_
  obtain ⟨r120, MC120, hc120, h⟩ := zbd_inv h
  refine lw_callC hW Z (as := [.inl (xs (nx (x3 + (1 : Int32)))), .inl (xs (nx (x3 + (2 : Int32)))), .inl (xs (nx (x3 + (3 : Int32))))]) (st := []) (m11_loud_met (zGC_ok hW) rfl hc120) cwL_89 m11_loud_in m11_loud_se rfl ⟨by exact Nat.le_of_ble_eq_true rfl, by exact Nat.le_of_ble_eq_true rfl⟩ rfl (by decide +kernel) hnk ?_
  refine zblq Z rfl [(.aload 2, 1), (.aload 0, 1), (.iload 3, 1), (.iconst 1, 1), (.iadd, 1)] (S' := (765, [(0, .inr (.inr (some (2200, 0)))), (1, .inr (.inr (some (11, 0)))), (2, .inr (.inr (some (12, 0)))), (3, .inl x3)], [.inl (x3 + (1 : Int32)), .inr (.inr (some (2200, 0))), .inr (.inr (some (12, 0))), .inl r120], _)) (b := true) (by decide +kernel) rfl rfl ?_
  obtain ⟨hg121, h⟩ := zgd_inv h
  refine c_sld Z hX hg121 (by decide +kernel) ?_
  refine zblq Z rfl [(.aload 0, 1), (.iload 3, 1), (.iconst 2, 1), (.iadd, 1)] (S' := (770, [(0, .inr (.inr (some (2200, 0)))), (1, .inr (.inr (some (11, 0)))), (2, .inr (.inr (some (12, 0)))), (3, .inl x3)], [.inl (x3 + (2 : Int32)), .inr (.inr (some (2200, 0))), .inl (xs (nx (x3 + (1 : Int32)))), .inr (.inr (some (12, 0))), .inl r120], _)) (b := true) (by decide +kernel) rfl rfl ?_
  obtain ⟨hg122, h⟩ := zgd_inv h
  refine c_sld Z hX hg122 (by decide +kernel) ?_
  refine zblq Z rfl [(.aload 0, 1), (.iload 3, 1), (.iconst 3, 1), (.iadd, 1)] (S' := (775, [(0, .inr (.inr (some (2200, 0)))), (1, .inr (.inr (some (11, 0)))), (2, .inr (.inr (some (12, 0)))), (3, .inl x3)], [.inl (x3 + (3 : Int32)), .inr (.inr (some (2200, 0))), .inl (xs (nx (x3 + (2 : Int32)))), .inl (xs (nx (x3 + (1 : Int32)))), .inr (.inr (some (12, 0))), .inl r120], _)) (b := true) (by decide +kernel) rfl rfl ?_
  obtain ⟨hg123, h⟩ := zgd_inv h
  refine c_sld Z hX hg123 (by decide +kernel) ?_
  obtain ⟨r124, MR124, hc124, h⟩ := zbd_inv h
  refine lw_callR hW Z (as := [.inl (xs (nx (x3 + (1 : Int32)))), .inl (xs (nx (x3 + (2 : Int32)))), .inl (xs (nx (x3 + (3 : Int32))))]) (st := [.inl r120]) (m12_loud_met (zGR_ok hW) rfl hc124) cwL_92 m12_loud_in m12_loud_se rfl ⟨by exact Nat.le_of_ble_eq_true rfl, by exact Nat.le_of_ble_eq_true rfl⟩ rfl (by decide +kernel) hnk ?_
  refine zic_eq Z (off := 890) (tgt := 1669) (by decide +kernel) (by decide) (fun hb125 => ?_) (fun hb125 => ?_)
  · replace h := zite_t h hb125
    cases h
    exact K
  · replace h := zite_f h hb125
    cases h
def mL_18 (L : Nat) (xs : Nat → Int32) (x3 : Int32) (MC : cM) (MR : rM) : Option (cM × rM) := zgd (zin (x3 + (1 : Int32)) L) (zgd (zin (x3 + (2 : Int32)) L) (zbd (m11_lies (xs (nx (x3 + (1 : Int32)))) (xs (nx (x3 + (2 : Int32)))) MC) (fun r128 MC128 => zgd (zin (x3 + (1 : Int32)) L) (zgd (zin (x3 + (2 : Int32)) L) (zbd (m12_lies (xs (nx (x3 + (1 : Int32)))) (xs (nx (x3 + (2 : Int32)))) MR) (fun r131 MR131 => (if r128 = r131 then some (MC128, MR131) else none)))))))
set_option maxHeartbeats 4000000 in
theorem mL_18_ok {p : Program} {l : Launch} {e : Env} {s : State} {m : MethodId} {args : Array Value} {below : List Frame} {meth : Method} {c : Code} {Q : State → Prop} {D : va_G} {ad : zR → Nat} {ca : Nat → ClassId} {A : Nat → Prop} {base n k : Nat} {L : Nat} {xs : Nat → Int32} {x3 : Int32} {MC MC' : cM} {MR MR' : rM} (hW : zWh zUA base ad A) (Z : zOK (zCm p l e room_1 s m args below meth c Q code 4 R_law tbL (zGL D ad ca A))) (hX : va_X (ad (2200, 0)) L xs s s.heap ∧ ad (2200, 0) < s.heap.size ∧ ¬ A (ad (2200, 0))) (hnk : n ≤ room_1.cells ∧ k ≤ room_1.slots) (h : mL_18 L xs x3 MC MR = some (MC', MR')) (K : zGo (zCm p l e room_1 s m args below meth c Q code 4 R_law tbL (zGL D ad ca A)) n k (1669, [(0, .inr (.inr (some (2200, 0)))), (1, .inr (.inr (some (11, 0)))), (2, .inr (.inr (some (12, 0)))), (3, .inl x3)], [], zmix MC' MR')) : zGo (zCm p l e room_1 s m args below meth c Q code 4 R_law tbL (zGL D ad ca A)) n k (784, [(0, .inr (.inr (some (2200, 0)))), (1, .inr (.inr (some (11, 0)))), (2, .inr (.inr (some (12, 0)))), (3, .inl x3)], [], zmix MC MR) := by
  unfold mL_18 at h
  refine zblq Z rfl [(.aload 1, 1), (.aload 0, 1), (.iload 3, 1), (.iconst 1, 1), (.iadd, 1)] (S' := (789, [(0, .inr (.inr (some (2200, 0)))), (1, .inr (.inr (some (11, 0)))), (2, .inr (.inr (some (12, 0)))), (3, .inl x3)], [.inl (x3 + (1 : Int32)), .inr (.inr (some (2200, 0))), .inr (.inr (some (11, 0)))], _)) (b := true) (by decide +kernel) rfl rfl ?_
  obtain ⟨hg126, h⟩ := zgd_inv h
  refine c_sld Z hX hg126 (by decide +kernel) ?_
  refine zblq Z rfl [(.aload 0, 1), (.iload 3, 1), (.iconst 2, 1), (.iadd, 1)] (S' := (794, [(0, .inr (.inr (some (2200, 0)))), (1, .inr (.inr (some (11, 0)))), (2, .inr (.inr (some (12, 0)))), (3, .inl x3)], [.inl (x3 + (2 : Int32)), .inr (.inr (some (2200, 0))), .inl (xs (nx (x3 + (1 : Int32)))), .inr (.inr (some (11, 0)))], _)) (b := true) (by decide +kernel) rfl rfl ?_
  obtain ⟨hg127, h⟩ := zgd_inv h
  refine c_sld Z hX hg127 (by decide +kernel) ?_
  obtain ⟨r128, MC128, hc128, h⟩ := zbd_inv h
  refine lw_callC hW Z (as := [.inl (xs (nx (x3 + (1 : Int32)))), .inl (xs (nx (x3 + (2 : Int32))))]) (st := []) (m11_lies_met (zGC_ok hW) rfl hc128) cwL_93 m11_lies_in m11_lies_se rfl ⟨by exact Nat.le_of_ble_eq_true rfl, by exact Nat.le_of_ble_eq_true rfl⟩ rfl (by decide +kernel) hnk ?_
  refine zblq Z rfl [(.aload 2, 1), (.aload 0, 1), (.iload 3, 1), (.iconst 1, 1), (.iadd, 1)] (S' := (803, [(0, .inr (.inr (some (2200, 0)))), (1, .inr (.inr (some (11, 0)))), (2, .inr (.inr (some (12, 0)))), (3, .inl x3)], [.inl (x3 + (1 : Int32)), .inr (.inr (some (2200, 0))), .inr (.inr (some (12, 0))), .inl r128], _)) (b := true) (by decide +kernel) rfl rfl ?_
  obtain ⟨hg129, h⟩ := zgd_inv h
  refine c_sld Z hX hg129 (by decide +kernel) ?_
  refine zblq Z rfl [(.aload 0, 1), (.iload 3, 1), (.iconst 2, 1), (.iadd, 1)] (S' := (808, [(0, .inr (.inr (some (2200, 0)))), (1, .inr (.inr (some (11, 0)))), (2, .inr (.inr (some (12, 0)))), (3, .inl x3)], [.inl (x3 + (2 : Int32)), .inr (.inr (some (2200, 0))), .inl (xs (nx (x3 + (1 : Int32)))), .inr (.inr (some (12, 0))), .inl r128], _)) (b := true) (by decide +kernel) rfl rfl ?_
  obtain ⟨hg130, h⟩ := zgd_inv h
  refine c_sld Z hX hg130 (by decide +kernel) ?_
  obtain ⟨r131, MR131, hc131, h⟩ := zbd_inv h
  refine lw_callR hW Z (as := [.inl (xs (nx (x3 + (1 : Int32)))), .inl (xs (nx (x3 + (2 : Int32))))]) (st := [.inl r128]) (m12_lies_met (zGR_ok hW) rfl hc131) cwL_96 m12_lies_in m12_lies_se rfl ⟨by exact Nat.le_of_ble_eq_true rfl, by exact Nat.le_of_ble_eq_true rfl⟩ rfl (by decide +kernel) hnk ?_
  refine zic_eq Z (off := 857) (tgt := 1669) (by decide +kernel) (by decide) (fun hb132 => ?_) (fun hb132 => ?_)
  · replace h := zite_t h hb132
    cases h
    exact K
  · replace h := zite_f h hb132
    cases h
def mL_19 (L : Nat) (xs : Nat → Int32) (x3 : Int32) (MC : cM) (MR : rM) : Option (cM × rM) := zgd (zin (x3 + (1 : Int32)) L) (zbd (m11_result (xs (nx (x3 + (1 : Int32)))) MC) (fun r134 MC134 => zgd (zin (x3 + (1 : Int32)) L) (zbd (m12_result (xs (nx (x3 + (1 : Int32)))) MR) (fun r136 MR136 => (if r134 = r136 then some (MC134, MR136) else none)))))
set_option maxHeartbeats 4000000 in
theorem mL_19_ok {p : Program} {l : Launch} {e : Env} {s : State} {m : MethodId} {args : Array Value} {below : List Frame} {meth : Method} {c : Code} {Q : State → Prop} {D : va_G} {ad : zR → Nat} {ca : Nat → ClassId} {A : Nat → Prop} {base n k : Nat} {L : Nat} {xs : Nat → Int32} {x3 : Int32} {MC MC' : cM} {MR MR' : rM} (hW : zWh zUA base ad A) (Z : zOK (zCm p l e room_1 s m args below meth c Q code 4 R_law tbL (zGL D ad ca A))) (hX : va_X (ad (2200, 0)) L xs s s.heap ∧ ad (2200, 0) < s.heap.size ∧ ¬ A (ad (2200, 0))) (hnk : n ≤ room_1.cells ∧ k ≤ room_1.slots) (h : mL_19 L xs x3 MC MR = some (MC', MR')) (K : zGo (zCm p l e room_1 s m args below meth c Q code 4 R_law tbL (zGL D ad ca A)) n k (1669, [(0, .inr (.inr (some (2200, 0)))), (1, .inr (.inr (some (11, 0)))), (2, .inr (.inr (some (12, 0)))), (3, .inl x3)], [], zmix MC' MR')) : zGo (zCm p l e room_1 s m args below meth c Q code 4 R_law tbL (zGL D ad ca A)) n k (817, [(0, .inr (.inr (some (2200, 0)))), (1, .inr (.inr (some (11, 0)))), (2, .inr (.inr (some (12, 0)))), (3, .inl x3)], [], zmix MC MR) := by
  unfold mL_19 at h
  refine zblq Z rfl [(.aload 1, 1), (.aload 0, 1), (.iload 3, 1), (.iconst 1, 1), (.iadd, 1)] (S' := (822, [(0, .inr (.inr (some (2200, 0)))), (1, .inr (.inr (some (11, 0)))), (2, .inr (.inr (some (12, 0)))), (3, .inl x3)], [.inl (x3 + (1 : Int32)), .inr (.inr (some (2200, 0))), .inr (.inr (some (11, 0)))], _)) (b := true) (by decide +kernel) rfl rfl ?_
  obtain ⟨hg133, h⟩ := zgd_inv h
  refine c_sld Z hX hg133 (by decide +kernel) ?_
  obtain ⟨r134, MC134, hc134, h⟩ := zbd_inv h
  refine lw_callC hW Z (as := [.inl (xs (nx (x3 + (1 : Int32))))]) (st := []) (m11_result_met (zGC_ok hW) rfl hc134) cwL_97 m11_result_in m11_result_se rfl ⟨by exact Nat.le_of_ble_eq_true rfl, by exact Nat.le_of_ble_eq_true rfl⟩ rfl (by decide +kernel) hnk ?_
  refine zblq Z rfl [(.aload 2, 1), (.aload 0, 1), (.iload 3, 1), (.iconst 1, 1), (.iadd, 1)] (S' := (831, [(0, .inr (.inr (some (2200, 0)))), (1, .inr (.inr (some (11, 0)))), (2, .inr (.inr (some (12, 0)))), (3, .inl x3)], [.inl (x3 + (1 : Int32)), .inr (.inr (some (2200, 0))), .inr (.inr (some (12, 0))), .inl r134], _)) (b := true) (by decide +kernel) rfl rfl ?_
  obtain ⟨hg135, h⟩ := zgd_inv h
  refine c_sld Z hX hg135 (by decide +kernel) ?_
  obtain ⟨r136, MR136, hc136, h⟩ := zbd_inv h
  refine lw_callR hW Z (as := [.inl (xs (nx (x3 + (1 : Int32))))]) (st := [.inl r134]) (m12_result_met (zGR_ok hW) rfl hc136) cwL_100 m12_result_in m12_result_se rfl ⟨by exact Nat.le_of_ble_eq_true rfl, by exact Nat.le_of_ble_eq_true rfl⟩ rfl (by decide +kernel) hnk ?_
  refine zic_eq Z (off := 834) (tgt := 1669) (by decide +kernel) (by decide) (fun hb137 => ?_) (fun hb137 => ?_)
  · replace h := zite_t h hb137
    cases h
    exact K
  · replace h := zite_f h hb137
    cases h
def mL_20 (L : Nat) (xs : Nat → Int32) (x3 : Int32) (MC : cM) (MR : rM) : Option (cM × rM) := zgd (zin (x3 + (1 : Int32)) L) (zgd (zin (x3 + (2 : Int32)) L) (zbd (m11_foretold (xs (nx (x3 + (1 : Int32)))) (xs (nx (x3 + (2 : Int32)))) MC) (fun r140 MC140 => zgd (zin (x3 + (1 : Int32)) L) (zgd (zin (x3 + (2 : Int32)) L) (zbd (m12_foretold (xs (nx (x3 + (1 : Int32)))) (xs (nx (x3 + (2 : Int32)))) MR) (fun r143 MR143 => (if r140 = r143 then some (MC140, MR143) else none)))))))
set_option maxHeartbeats 4000000 in
theorem mL_20_ok {p : Program} {l : Launch} {e : Env} {s : State} {m : MethodId} {args : Array Value} {below : List Frame} {meth : Method} {c : Code} {Q : State → Prop} {D : va_G} {ad : zR → Nat} {ca : Nat → ClassId} {A : Nat → Prop} {base n k : Nat} {L : Nat} {xs : Nat → Int32} {x3 : Int32} {MC MC' : cM} {MR MR' : rM} (hW : zWh zUA base ad A) (Z : zOK (zCm p l e room_1 s m args below meth c Q code 4 R_law tbL (zGL D ad ca A))) (hX : va_X (ad (2200, 0)) L xs s s.heap ∧ ad (2200, 0) < s.heap.size ∧ ¬ A (ad (2200, 0))) (hnk : n ≤ room_1.cells ∧ k ≤ room_1.slots) (h : mL_20 L xs x3 MC MR = some (MC', MR')) (K : zGo (zCm p l e room_1 s m args below meth c Q code 4 R_law tbL (zGL D ad ca A)) n k (1669, [(0, .inr (.inr (some (2200, 0)))), (1, .inr (.inr (some (11, 0)))), (2, .inr (.inr (some (12, 0)))), (3, .inl x3)], [], zmix MC' MR')) : zGo (zCm p l e room_1 s m args below meth c Q code 4 R_law tbL (zGL D ad ca A)) n k (840, [(0, .inr (.inr (some (2200, 0)))), (1, .inr (.inr (some (11, 0)))), (2, .inr (.inr (some (12, 0)))), (3, .inl x3)], [], zmix MC MR) := by
  unfold mL_20 at h
  refine zblq Z rfl [(.aload 1, 1), (.aload 0, 1), (.iload 3, 1), (.iconst 1, 1), (.iadd, 1)] (S' := (845, [(0, .inr (.inr (some (2200, 0)))), (1, .inr (.inr (some (11, 0)))), (2, .inr (.inr (some (12, 0)))), (3, .inl x3)], [.inl (x3 + (1 : Int32)), .inr (.inr (some (2200, 0))), .inr (.inr (some (11, 0)))], _)) (b := true) (by decide +kernel) rfl rfl ?_
  obtain ⟨hg138, h⟩ := zgd_inv h
  refine c_sld Z hX hg138 (by decide +kernel) ?_
  refine zblq Z rfl [(.aload 0, 1), (.iload 3, 1), (.iconst 2, 1), (.iadd, 1)] (S' := (850, [(0, .inr (.inr (some (2200, 0)))), (1, .inr (.inr (some (11, 0)))), (2, .inr (.inr (some (12, 0)))), (3, .inl x3)], [.inl (x3 + (2 : Int32)), .inr (.inr (some (2200, 0))), .inl (xs (nx (x3 + (1 : Int32)))), .inr (.inr (some (11, 0)))], _)) (b := true) (by decide +kernel) rfl rfl ?_
  obtain ⟨hg139, h⟩ := zgd_inv h
  refine c_sld Z hX hg139 (by decide +kernel) ?_
  obtain ⟨r140, MC140, hc140, h⟩ := zbd_inv h
  refine lw_callC hW Z (as := [.inl (xs (nx (x3 + (1 : Int32)))), .inl (xs (nx (x3 + (2 : Int32))))]) (st := []) (m11_foretold_met (zGC_ok hW) rfl hc140) cwL_101 m11_foretold_in m11_foretold_se rfl ⟨by exact Nat.le_of_ble_eq_true rfl, by exact Nat.le_of_ble_eq_true rfl⟩ rfl (by decide +kernel) hnk ?_
  refine zblq Z rfl [(.aload 2, 1), (.aload 0, 1), (.iload 3, 1), (.iconst 1, 1), (.iadd, 1)] (S' := (859, [(0, .inr (.inr (some (2200, 0)))), (1, .inr (.inr (some (11, 0)))), (2, .inr (.inr (some (12, 0)))), (3, .inl x3)], [.inl (x3 + (1 : Int32)), .inr (.inr (some (2200, 0))), .inr (.inr (some (12, 0))), .inl r140], _)) (b := true) (by decide +kernel) rfl rfl ?_
  obtain ⟨hg141, h⟩ := zgd_inv h
  refine c_sld Z hX hg141 (by decide +kernel) ?_
  refine zblq Z rfl [(.aload 0, 1), (.iload 3, 1), (.iconst 2, 1), (.iadd, 1)] (S' := (864, [(0, .inr (.inr (some (2200, 0)))), (1, .inr (.inr (some (11, 0)))), (2, .inr (.inr (some (12, 0)))), (3, .inl x3)], [.inl (x3 + (2 : Int32)), .inr (.inr (some (2200, 0))), .inl (xs (nx (x3 + (1 : Int32)))), .inr (.inr (some (12, 0))), .inl r140], _)) (b := true) (by decide +kernel) rfl rfl ?_
  obtain ⟨hg142, h⟩ := zgd_inv h
  refine c_sld Z hX hg142 (by decide +kernel) ?_
  obtain ⟨r143, MR143, hc143, h⟩ := zbd_inv h
  refine lw_callR hW Z (as := [.inl (xs (nx (x3 + (1 : Int32)))), .inl (xs (nx (x3 + (2 : Int32))))]) (st := [.inl r140]) (m12_foretold_met (zGR_ok hW) rfl hc143) cwL_104 m12_foretold_in m12_foretold_se rfl ⟨by exact Nat.le_of_ble_eq_true rfl, by exact Nat.le_of_ble_eq_true rfl⟩ rfl (by decide +kernel) hnk ?_
  refine zic_eq Z (off := 801) (tgt := 1669) (by decide +kernel) (by decide) (fun hb144 => ?_) (fun hb144 => ?_)
  · replace h := zite_t h hb144
    cases h
    exact K
  · replace h := zite_f h hb144
    cases h
def mL_21 (L : Nat) (xs : Nat → Int32) (x3 : Int32) (MC : cM) (MR : rM) : Option (cM × rM) := zgd (zin (x3 + (1 : Int32)) L) (zbd (m11_life (xs (nx (x3 + (1 : Int32)))) MC) (fun r146 MC146 => zgd (zin (x3 + (1 : Int32)) L) (zbd (m12_life (xs (nx (x3 + (1 : Int32)))) MR) (fun r148 MR148 => (if r146 = r148 then some (MC146, MR148) else none)))))
set_option maxHeartbeats 4000000 in
theorem mL_21_ok {p : Program} {l : Launch} {e : Env} {s : State} {m : MethodId} {args : Array Value} {below : List Frame} {meth : Method} {c : Code} {Q : State → Prop} {D : va_G} {ad : zR → Nat} {ca : Nat → ClassId} {A : Nat → Prop} {base n k : Nat} {L : Nat} {xs : Nat → Int32} {x3 : Int32} {MC MC' : cM} {MR MR' : rM} (hW : zWh zUA base ad A) (Z : zOK (zCm p l e room_1 s m args below meth c Q code 4 R_law tbL (zGL D ad ca A))) (hX : va_X (ad (2200, 0)) L xs s s.heap ∧ ad (2200, 0) < s.heap.size ∧ ¬ A (ad (2200, 0))) (hnk : n ≤ room_1.cells ∧ k ≤ room_1.slots) (h : mL_21 L xs x3 MC MR = some (MC', MR')) (K : zGo (zCm p l e room_1 s m args below meth c Q code 4 R_law tbL (zGL D ad ca A)) n k (1669, [(0, .inr (.inr (some (2200, 0)))), (1, .inr (.inr (some (11, 0)))), (2, .inr (.inr (some (12, 0)))), (3, .inl x3)], [], zmix MC' MR')) : zGo (zCm p l e room_1 s m args below meth c Q code 4 R_law tbL (zGL D ad ca A)) n k (873, [(0, .inr (.inr (some (2200, 0)))), (1, .inr (.inr (some (11, 0)))), (2, .inr (.inr (some (12, 0)))), (3, .inl x3)], [], zmix MC MR) := by
  unfold mL_21 at h
  refine zblq Z rfl [(.aload 1, 1), (.aload 0, 1), (.iload 3, 1), (.iconst 1, 1), (.iadd, 1)] (S' := (878, [(0, .inr (.inr (some (2200, 0)))), (1, .inr (.inr (some (11, 0)))), (2, .inr (.inr (some (12, 0)))), (3, .inl x3)], [.inl (x3 + (1 : Int32)), .inr (.inr (some (2200, 0))), .inr (.inr (some (11, 0)))], _)) (b := true) (by decide +kernel) rfl rfl ?_
  obtain ⟨hg145, h⟩ := zgd_inv h
  refine c_sld Z hX hg145 (by decide +kernel) ?_
  obtain ⟨r146, MC146, hc146, h⟩ := zbd_inv h
  refine lw_callC hW Z (as := [.inl (xs (nx (x3 + (1 : Int32))))]) (st := []) (m11_life_met (zGC_ok hW) rfl hc146) cwL_105 m11_life_in m11_life_se rfl ⟨by exact Nat.le_of_ble_eq_true rfl, by exact Nat.le_of_ble_eq_true rfl⟩ rfl (by decide +kernel) hnk ?_
  refine zblq Z rfl [(.aload 2, 1), (.aload 0, 1), (.iload 3, 1), (.iconst 1, 1), (.iadd, 1)] (S' := (887, [(0, .inr (.inr (some (2200, 0)))), (1, .inr (.inr (some (11, 0)))), (2, .inr (.inr (some (12, 0)))), (3, .inl x3)], [.inl (x3 + (1 : Int32)), .inr (.inr (some (2200, 0))), .inr (.inr (some (12, 0))), .inl r146], _)) (b := true) (by decide +kernel) rfl rfl ?_
  obtain ⟨hg147, h⟩ := zgd_inv h
  refine c_sld Z hX hg147 (by decide +kernel) ?_
  obtain ⟨r148, MR148, hc148, h⟩ := zbd_inv h
  refine lw_callR hW Z (as := [.inl (xs (nx (x3 + (1 : Int32))))]) (st := [.inl r146]) (m12_life_met (zGR_ok hW) rfl hc148) cwL_108 m12_life_in m12_life_se rfl ⟨by exact Nat.le_of_ble_eq_true rfl, by exact Nat.le_of_ble_eq_true rfl⟩ rfl (by decide +kernel) hnk ?_
  refine zic_eq Z (off := 778) (tgt := 1669) (by decide +kernel) (by decide) (fun hb149 => ?_) (fun hb149 => ?_)
  · replace h := zite_t h hb149
    cases h
    exact K
  · replace h := zite_f h hb149
    cases h
def mL_22 (L : Nat) (xs : Nat → Int32) (x3 : Int32) (MC : cM) (MR : rM) : Option (cM × rM) := zbd (m11_longest MC) (fun r150 MC150 => zbd (m12_longest MR) (fun r151 MR151 => (if r150 = r151 then some (MC150, MR151) else none)))
set_option maxHeartbeats 4000000 in
theorem mL_22_ok {p : Program} {l : Launch} {e : Env} {s : State} {m : MethodId} {args : Array Value} {below : List Frame} {meth : Method} {c : Code} {Q : State → Prop} {D : va_G} {ad : zR → Nat} {ca : Nat → ClassId} {A : Nat → Prop} {base n k : Nat} {L : Nat} {xs : Nat → Int32} {x3 : Int32} {MC MC' : cM} {MR MR' : rM} (hW : zWh zUA base ad A) (Z : zOK (zCm p l e room_1 s m args below meth c Q code 4 R_law tbL (zGL D ad ca A))) (hX : va_X (ad (2200, 0)) L xs s s.heap ∧ ad (2200, 0) < s.heap.size ∧ ¬ A (ad (2200, 0))) (hnk : n ≤ room_1.cells ∧ k ≤ room_1.slots) (h : mL_22 L xs x3 MC MR = some (MC', MR')) (K : zGo (zCm p l e room_1 s m args below meth c Q code 4 R_law tbL (zGL D ad ca A)) n k (1669, [(0, .inr (.inr (some (2200, 0)))), (1, .inr (.inr (some (11, 0)))), (2, .inr (.inr (some (12, 0)))), (3, .inl x3)], [], zmix MC' MR')) : zGo (zCm p l e room_1 s m args below meth c Q code 4 R_law tbL (zGL D ad ca A)) n k (896, [(0, .inr (.inr (some (2200, 0)))), (1, .inr (.inr (some (11, 0)))), (2, .inr (.inr (some (12, 0)))), (3, .inl x3)], [], zmix MC MR) := by
  unfold mL_22 at h
  refine zblq Z rfl [(.aload 1, 1)] (S' := (897, [(0, .inr (.inr (some (2200, 0)))), (1, .inr (.inr (some (11, 0)))), (2, .inr (.inr (some (12, 0)))), (3, .inl x3)], [.inr (.inr (some (11, 0)))], _)) (b := true) (by decide +kernel) rfl rfl ?_
  obtain ⟨r150, MC150, hc150, h⟩ := zbd_inv h
  refine lw_callC hW Z (as := []) (st := []) (m11_longest_met (zGC_ok hW) rfl hc150) cwL_109 m11_longest_in m11_longest_se rfl ⟨by exact Nat.le_of_ble_eq_true rfl, by exact Nat.le_of_ble_eq_true rfl⟩ rfl (by decide +kernel) hnk ?_
  refine zblq Z rfl [(.aload 2, 1)] (S' := (901, [(0, .inr (.inr (some (2200, 0)))), (1, .inr (.inr (some (11, 0)))), (2, .inr (.inr (some (12, 0)))), (3, .inl x3)], [.inr (.inr (some (12, 0))), .inl r150], _)) (b := true) (by decide +kernel) rfl rfl ?_
  obtain ⟨r151, MR151, hc151, h⟩ := zbd_inv h
  refine lw_callR hW Z (as := []) (st := [.inl r150]) (m12_longest_met (zGR_ok hW) rfl hc151) cwL_112 m12_longest_in m12_longest_se rfl ⟨by exact Nat.le_of_ble_eq_true rfl, by exact Nat.le_of_ble_eq_true rfl⟩ rfl (by decide +kernel) hnk ?_
  refine zic_eq Z (off := 765) (tgt := 1669) (by decide +kernel) (by decide) (fun hb152 => ?_) (fun hb152 => ?_)
  · replace h := zite_t h hb152
    cases h
    exact K
  · replace h := zite_f h hb152
    cases h
def mL_23 (L : Nat) (xs : Nat → Int32) (x3 : Int32) (MC : cM) (MR : rM) : Option (cM × rM) := zgd (zin (x3 + (1 : Int32)) L) (zbd (m11_best (xs (nx (x3 + (1 : Int32)))) MC) (fun r154 MC154 => zgd (zin (x3 + (1 : Int32)) L) (zbd (m12_best (xs (nx (x3 + (1 : Int32)))) MR) (fun r156 MR156 => (if r154 = r156 then some (MC154, MR156) else none)))))
set_option maxHeartbeats 4000000 in
theorem mL_23_ok {p : Program} {l : Launch} {e : Env} {s : State} {m : MethodId} {args : Array Value} {below : List Frame} {meth : Method} {c : Code} {Q : State → Prop} {D : va_G} {ad : zR → Nat} {ca : Nat → ClassId} {A : Nat → Prop} {base n k : Nat} {L : Nat} {xs : Nat → Int32} {x3 : Int32} {MC MC' : cM} {MR MR' : rM} (hW : zWh zUA base ad A) (Z : zOK (zCm p l e room_1 s m args below meth c Q code 4 R_law tbL (zGL D ad ca A))) (hX : va_X (ad (2200, 0)) L xs s s.heap ∧ ad (2200, 0) < s.heap.size ∧ ¬ A (ad (2200, 0))) (hnk : n ≤ room_1.cells ∧ k ≤ room_1.slots) (h : mL_23 L xs x3 MC MR = some (MC', MR')) (K : zGo (zCm p l e room_1 s m args below meth c Q code 4 R_law tbL (zGL D ad ca A)) n k (1669, [(0, .inr (.inr (some (2200, 0)))), (1, .inr (.inr (some (11, 0)))), (2, .inr (.inr (some (12, 0)))), (3, .inl x3)], [], zmix MC' MR')) : zGo (zCm p l e room_1 s m args below meth c Q code 4 R_law tbL (zGL D ad ca A)) n k (909, [(0, .inr (.inr (some (2200, 0)))), (1, .inr (.inr (some (11, 0)))), (2, .inr (.inr (some (12, 0)))), (3, .inl x3)], [], zmix MC MR) := by
  unfold mL_23 at h
  refine zblq Z rfl [(.aload 1, 1), (.aload 0, 1), (.iload 3, 1), (.iconst 1, 1), (.iadd, 1)] (S' := (914, [(0, .inr (.inr (some (2200, 0)))), (1, .inr (.inr (some (11, 0)))), (2, .inr (.inr (some (12, 0)))), (3, .inl x3)], [.inl (x3 + (1 : Int32)), .inr (.inr (some (2200, 0))), .inr (.inr (some (11, 0)))], _)) (b := true) (by decide +kernel) rfl rfl ?_
  obtain ⟨hg153, h⟩ := zgd_inv h
  refine c_sld Z hX hg153 (by decide +kernel) ?_
  obtain ⟨r154, MC154, hc154, h⟩ := zbd_inv h
  refine lw_callC hW Z (as := [.inl (xs (nx (x3 + (1 : Int32))))]) (st := []) (m11_best_met (zGC_ok hW) rfl hc154) cwL_113 m11_best_in m11_best_se rfl ⟨by exact Nat.le_of_ble_eq_true rfl, by exact Nat.le_of_ble_eq_true rfl⟩ rfl (by decide +kernel) hnk ?_
  refine zblq Z rfl [(.aload 2, 1), (.aload 0, 1), (.iload 3, 1), (.iconst 1, 1), (.iadd, 1)] (S' := (923, [(0, .inr (.inr (some (2200, 0)))), (1, .inr (.inr (some (11, 0)))), (2, .inr (.inr (some (12, 0)))), (3, .inl x3)], [.inl (x3 + (1 : Int32)), .inr (.inr (some (2200, 0))), .inr (.inr (some (12, 0))), .inl r154], _)) (b := true) (by decide +kernel) rfl rfl ?_
  obtain ⟨hg155, h⟩ := zgd_inv h
  refine c_sld Z hX hg155 (by decide +kernel) ?_
  obtain ⟨r156, MR156, hc156, h⟩ := zbd_inv h
  refine lw_callR hW Z (as := [.inl (xs (nx (x3 + (1 : Int32))))]) (st := [.inl r154]) (m12_best_met (zGR_ok hW) rfl hc156) cwL_116 m12_best_in m12_best_se rfl ⟨by exact Nat.le_of_ble_eq_true rfl, by exact Nat.le_of_ble_eq_true rfl⟩ rfl (by decide +kernel) hnk ?_
  refine zic_eq Z (off := 742) (tgt := 1669) (by decide +kernel) (by decide) (fun hb157 => ?_) (fun hb157 => ?_)
  · replace h := zite_t h hb157
    cases h
    exact K
  · replace h := zite_f h hb157
    cases h
def mL_24 (L : Nat) (xs : Nat → Int32) (x3 : Int32) (MC : cM) (MR : rM) : Option (cM × rM) := zgd (zin (x3 + (1 : Int32)) L) (zgd (zin (x3 + (2 : Int32)) L) (zgd (zin (x3 + (3 : Int32)) L) (zgd (zin (x3 + (4 : Int32)) L) (zgd (zin (x3 + (5 : Int32)) L) (zbd (m11_fact (xs (nx (x3 + (1 : Int32)))) (xs (nx (x3 + (2 : Int32)))) (xs (nx (x3 + (3 : Int32)))) (xs (nx (x3 + (4 : Int32)))) (xs (nx (x3 + (5 : Int32)))) MC) (fun r163 MC163 => zgd (zin (x3 + (1 : Int32)) L) (zgd (zin (x3 + (2 : Int32)) L) (zgd (zin (x3 + (3 : Int32)) L) (zgd (zin (x3 + (4 : Int32)) L) (zgd (zin (x3 + (5 : Int32)) L) (zbd (m12_fact (xs (nx (x3 + (1 : Int32)))) (xs (nx (x3 + (2 : Int32)))) (xs (nx (x3 + (3 : Int32)))) (xs (nx (x3 + (4 : Int32)))) (xs (nx (x3 + (5 : Int32)))) MR) (fun r169 MR169 => (if r163 = r169 then some (MC163, MR169) else none)))))))))))))
set_option maxHeartbeats 4000000 in
theorem mL_24_ok {p : Program} {l : Launch} {e : Env} {s : State} {m : MethodId} {args : Array Value} {below : List Frame} {meth : Method} {c : Code} {Q : State → Prop} {D : va_G} {ad : zR → Nat} {ca : Nat → ClassId} {A : Nat → Prop} {base n k : Nat} {L : Nat} {xs : Nat → Int32} {x3 : Int32} {MC MC' : cM} {MR MR' : rM} (hW : zWh zUA base ad A) (Z : zOK (zCm p l e room_1 s m args below meth c Q code 4 R_law tbL (zGL D ad ca A))) (hX : va_X (ad (2200, 0)) L xs s s.heap ∧ ad (2200, 0) < s.heap.size ∧ ¬ A (ad (2200, 0))) (hnk : n ≤ room_1.cells ∧ k ≤ room_1.slots) (h : mL_24 L xs x3 MC MR = some (MC', MR')) (K : zGo (zCm p l e room_1 s m args below meth c Q code 4 R_law tbL (zGL D ad ca A)) n k (1669, [(0, .inr (.inr (some (2200, 0)))), (1, .inr (.inr (some (11, 0)))), (2, .inr (.inr (some (12, 0)))), (3, .inl x3)], [], zmix MC' MR')) : zGo (zCm p l e room_1 s m args below meth c Q code 4 R_law tbL (zGL D ad ca A)) n k (932, [(0, .inr (.inr (some (2200, 0)))), (1, .inr (.inr (some (11, 0)))), (2, .inr (.inr (some (12, 0)))), (3, .inl x3)], [], zmix MC MR) := by
  unfold mL_24 at h
  refine zblq Z rfl [(.aload 1, 1), (.aload 0, 1), (.iload 3, 1), (.iconst 1, 1), (.iadd, 1)] (S' := (937, [(0, .inr (.inr (some (2200, 0)))), (1, .inr (.inr (some (11, 0)))), (2, .inr (.inr (some (12, 0)))), (3, .inl x3)], [.inl (x3 + (1 : Int32)), .inr (.inr (some (2200, 0))), .inr (.inr (some (11, 0)))], _)) (b := true) (by decide +kernel) rfl rfl ?_
  obtain ⟨hg158, h⟩ := zgd_inv h
  refine c_sld Z hX hg158 (by decide +kernel) ?_
  refine zblq Z rfl [(.aload 0, 1), (.iload 3, 1), (.iconst 2, 1), (.iadd, 1)] (S' := (942, [(0, .inr (.inr (some (2200, 0)))), (1, .inr (.inr (some (11, 0)))), (2, .inr (.inr (some (12, 0)))), (3, .inl x3)], [.inl (x3 + (2 : Int32)), .inr (.inr (some (2200, 0))), .inl (xs (nx (x3 + (1 : Int32)))), .inr (.inr (some (11, 0)))], _)) (b := true) (by decide +kernel) rfl rfl ?_
  obtain ⟨hg159, h⟩ := zgd_inv h
  refine c_sld Z hX hg159 (by decide +kernel) ?_
  refine zblq Z rfl [(.aload 0, 1), (.iload 3, 1), (.iconst 3, 1), (.iadd, 1)] (S' := (947, [(0, .inr (.inr (some (2200, 0)))), (1, .inr (.inr (some (11, 0)))), (2, .inr (.inr (some (12, 0)))), (3, .inl x3)], [.inl (x3 + (3 : Int32)), .inr (.inr (some (2200, 0))), .inl (xs (nx (x3 + (2 : Int32)))), .inl (xs (nx (x3 + (1 : Int32)))), .inr (.inr (some (11, 0)))], _)) (b := true) (by decide +kernel) rfl rfl ?_
  obtain ⟨hg160, h⟩ := zgd_inv h
  refine c_sld Z hX hg160 (by decide +kernel) ?_
  refine zblq Z rfl [(.aload 0, 1), (.iload 3, 1), (.iconst 4, 1), (.iadd, 1)] (S' := (952, [(0, .inr (.inr (some (2200, 0)))), (1, .inr (.inr (some (11, 0)))), (2, .inr (.inr (some (12, 0)))), (3, .inl x3)], [.inl (x3 + (4 : Int32)), .inr (.inr (some (2200, 0))), .inl (xs (nx (x3 + (3 : Int32)))), .inl (xs (nx (x3 + (2 : Int32)))), .inl (xs (nx (x3 + (1 : Int32)))), .inr (.inr (some (11, 0)))], _)) (b := true) (by decide +kernel) rfl rfl ?_
  obtain ⟨hg161, h⟩ := zgd_inv h
  refine c_sld Z hX hg161 (by decide +kernel) ?_
  refine zblq Z rfl [(.aload 0, 1), (.iload 3, 1), (.iconst 5, 1), (.iadd, 1)] (S' := (957, [(0, .inr (.inr (some (2200, 0)))), (1, .inr (.inr (some (11, 0)))), (2, .inr (.inr (some (12, 0)))), (3, .inl x3)], [.inl (x3 + (5 : Int32)), .inr (.inr (some (2200, 0))), .inl (xs (nx (x3 + (4 : Int32)))), .inl (xs (nx (x3 + (3 : Int32)))), .inl (xs (nx (x3 + (2 : Int32)))), .inl (xs (nx (x3 + (1 : Int32)))), .inr (.inr (some (11, 0)))], _)) (b := true) (by decide +kernel) rfl rfl ?_
  obtain ⟨hg162, h⟩ := zgd_inv h
  refine c_sld Z hX hg162 (by decide +kernel) ?_
  obtain ⟨r163, MC163, hc163, h⟩ := zbd_inv h
  refine lw_callC hW Z (as := [.inl (xs (nx (x3 + (1 : Int32)))), .inl (xs (nx (x3 + (2 : Int32)))), .inl (xs (nx (x3 + (3 : Int32)))), .inl (xs (nx (x3 + (4 : Int32)))), .inl (xs (nx (x3 + (5 : Int32))))]) (st := []) (m11_fact_met (zGC_ok hW) rfl hc163) cwL_117 m11_fact_in m11_fact_se rfl ⟨by exact Nat.le_of_ble_eq_true rfl, by exact Nat.le_of_ble_eq_true rfl⟩ rfl (by decide +kernel) hnk ?_
  refine zblq Z rfl [(.aload 2, 1), (.aload 0, 1), (.iload 3, 1), (.iconst 1, 1), (.iadd, 1)] (S' := (966, [(0, .inr (.inr (some (2200, 0)))), (1, .inr (.inr (some (11, 0)))), (2, .inr (.inr (some (12, 0)))), (3, .inl x3)], [.inl (x3 + (1 : Int32)), .inr (.inr (some (2200, 0))), .inr (.inr (some (12, 0))), .inl r163], _)) (b := true) (by decide +kernel) rfl rfl ?_
  obtain ⟨hg164, h⟩ := zgd_inv h
  refine c_sld Z hX hg164 (by decide +kernel) ?_
  refine zblq Z rfl [(.aload 0, 1), (.iload 3, 1), (.iconst 2, 1), (.iadd, 1)] (S' := (971, [(0, .inr (.inr (some (2200, 0)))), (1, .inr (.inr (some (11, 0)))), (2, .inr (.inr (some (12, 0)))), (3, .inl x3)], [.inl (x3 + (2 : Int32)), .inr (.inr (some (2200, 0))), .inl (xs (nx (x3 + (1 : Int32)))), .inr (.inr (some (12, 0))), .inl r163], _)) (b := true) (by decide +kernel) rfl rfl ?_
  obtain ⟨hg165, h⟩ := zgd_inv h
  refine c_sld Z hX hg165 (by decide +kernel) ?_
  refine zblq Z rfl [(.aload 0, 1), (.iload 3, 1), (.iconst 3, 1), (.iadd, 1)] (S' := (976, [(0, .inr (.inr (some (2200, 0)))), (1, .inr (.inr (some (11, 0)))), (2, .inr (.inr (some (12, 0)))), (3, .inl x3)], [.inl (x3 + (3 : Int32)), .inr (.inr (some (2200, 0))), .inl (xs (nx (x3 + (2 : Int32)))), .inl (xs (nx (x3 + (1 : Int32)))), .inr (.inr (some (12, 0))), .inl r163], _)) (b := true) (by decide +kernel) rfl rfl ?_
  obtain ⟨hg166, h⟩ := zgd_inv h
  refine c_sld Z hX hg166 (by decide +kernel) ?_
  refine zblq Z rfl [(.aload 0, 1), (.iload 3, 1), (.iconst 4, 1), (.iadd, 1)] (S' := (981, [(0, .inr (.inr (some (2200, 0)))), (1, .inr (.inr (some (11, 0)))), (2, .inr (.inr (some (12, 0)))), (3, .inl x3)], [.inl (x3 + (4 : Int32)), .inr (.inr (some (2200, 0))), .inl (xs (nx (x3 + (3 : Int32)))), .inl (xs (nx (x3 + (2 : Int32)))), .inl (xs (nx (x3 + (1 : Int32)))), .inr (.inr (some (12, 0))), .inl r163], _)) (b := true) (by decide +kernel) rfl rfl ?_
  obtain ⟨hg167, h⟩ := zgd_inv h
  refine c_sld Z hX hg167 (by decide +kernel) ?_
  refine zblq Z rfl [(.aload 0, 1), (.iload 3, 1), (.iconst 5, 1), (.iadd, 1)] (S' := (986, [(0, .inr (.inr (some (2200, 0)))), (1, .inr (.inr (some (11, 0)))), (2, .inr (.inr (some (12, 0)))), (3, .inl x3)], [.inl (x3 + (5 : Int32)), .inr (.inr (some (2200, 0))), .inl (xs (nx (x3 + (4 : Int32)))), .inl (xs (nx (x3 + (3 : Int32)))), .inl (xs (nx (x3 + (2 : Int32)))), .inl (xs (nx (x3 + (1 : Int32)))), .inr (.inr (some (12, 0))), .inl r163], _)) (b := true) (by decide +kernel) rfl rfl ?_
  obtain ⟨hg168, h⟩ := zgd_inv h
  refine c_sld Z hX hg168 (by decide +kernel) ?_
  obtain ⟨r169, MR169, hc169, h⟩ := zbd_inv h
  refine lw_callR hW Z (as := [.inl (xs (nx (x3 + (1 : Int32)))), .inl (xs (nx (x3 + (2 : Int32)))), .inl (xs (nx (x3 + (3 : Int32)))), .inl (xs (nx (x3 + (4 : Int32)))), .inl (xs (nx (x3 + (5 : Int32))))]) (st := [.inl r163]) (m12_fact_met (zGR_ok hW) rfl hc169) cwL_121 m12_fact_in m12_fact_se rfl ⟨by exact Nat.le_of_ble_eq_true rfl, by exact Nat.le_of_ble_eq_true rfl⟩ rfl (by decide +kernel) hnk ?_
  refine zic_eq Z (off := 679) (tgt := 1669) (by decide +kernel) (by decide) (fun hb170 => ?_) (fun hb170 => ?_)
  · replace h := zite_t h hb170
    cases h
    exact K
  · replace h := zite_f h hb170
    cases h
def mL_25 (L : Nat) (xs : Nat → Int32) (x3 : Int32) (MC : cM) (MR : rM) : Option (cM × rM) := zgd (zin (x3 + (1 : Int32)) L) (zgd (zin (x3 + (2 : Int32)) L) (zgd (zin (x3 + (3 : Int32)) L) (zbd (m11_hour (xs (nx (x3 + (1 : Int32)))) (xs (nx (x3 + (2 : Int32)))) (xs (nx (x3 + (3 : Int32)))) MC) (fun r174 MC174 => zgd (zin (x3 + (1 : Int32)) L) (zgd (zin (x3 + (2 : Int32)) L) (zgd (zin (x3 + (3 : Int32)) L) (zbd (m12_hour (xs (nx (x3 + (1 : Int32)))) (xs (nx (x3 + (2 : Int32)))) (xs (nx (x3 + (3 : Int32)))) MR) (fun r178 MR178 => (if r174 = r178 then some (MC174, MR178) else none)))))))))
set_option maxHeartbeats 4000000 in
theorem mL_25_ok {p : Program} {l : Launch} {e : Env} {s : State} {m : MethodId} {args : Array Value} {below : List Frame} {meth : Method} {c : Code} {Q : State → Prop} {D : va_G} {ad : zR → Nat} {ca : Nat → ClassId} {A : Nat → Prop} {base n k : Nat} {L : Nat} {xs : Nat → Int32} {x3 : Int32} {MC MC' : cM} {MR MR' : rM} (hW : zWh zUA base ad A) (Z : zOK (zCm p l e room_1 s m args below meth c Q code 4 R_law tbL (zGL D ad ca A))) (hX : va_X (ad (2200, 0)) L xs s s.heap ∧ ad (2200, 0) < s.heap.size ∧ ¬ A (ad (2200, 0))) (hnk : n ≤ room_1.cells ∧ k ≤ room_1.slots) (h : mL_25 L xs x3 MC MR = some (MC', MR')) (K : zGo (zCm p l e room_1 s m args below meth c Q code 4 R_law tbL (zGL D ad ca A)) n k (1669, [(0, .inr (.inr (some (2200, 0)))), (1, .inr (.inr (some (11, 0)))), (2, .inr (.inr (some (12, 0)))), (3, .inl x3)], [], zmix MC' MR')) : zGo (zCm p l e room_1 s m args below meth c Q code 4 R_law tbL (zGL D ad ca A)) n k (995, [(0, .inr (.inr (some (2200, 0)))), (1, .inr (.inr (some (11, 0)))), (2, .inr (.inr (some (12, 0)))), (3, .inl x3)], [], zmix MC MR) := by
  unfold mL_25 at h
  refine zblq Z rfl [(.aload 1, 1), (.aload 0, 1), (.iload 3, 1), (.iconst 1, 1), (.iadd, 1)] (S' := (1000, [(0, .inr (.inr (some (2200, 0)))), (1, .inr (.inr (some (11, 0)))), (2, .inr (.inr (some (12, 0)))), (3, .inl x3)], [.inl (x3 + (1 : Int32)), .inr (.inr (some (2200, 0))), .inr (.inr (some (11, 0)))], _)) (b := true) (by decide +kernel) rfl rfl ?_
  obtain ⟨hg171, h⟩ := zgd_inv h
  refine c_sld Z hX hg171 (by decide +kernel) ?_
  refine zblq Z rfl [(.aload 0, 1), (.iload 3, 1), (.iconst 2, 1), (.iadd, 1)] (S' := (1005, [(0, .inr (.inr (some (2200, 0)))), (1, .inr (.inr (some (11, 0)))), (2, .inr (.inr (some (12, 0)))), (3, .inl x3)], [.inl (x3 + (2 : Int32)), .inr (.inr (some (2200, 0))), .inl (xs (nx (x3 + (1 : Int32)))), .inr (.inr (some (11, 0)))], _)) (b := true) (by decide +kernel) rfl rfl ?_
  obtain ⟨hg172, h⟩ := zgd_inv h
  refine c_sld Z hX hg172 (by decide +kernel) ?_
  refine zblq Z rfl [(.aload 0, 1), (.iload 3, 1), (.iconst 3, 1), (.iadd, 1)] (S' := (1010, [(0, .inr (.inr (some (2200, 0)))), (1, .inr (.inr (some (11, 0)))), (2, .inr (.inr (some (12, 0)))), (3, .inl x3)], [.inl (x3 + (3 : Int32)), .inr (.inr (some (2200, 0))), .inl (xs (nx (x3 + (2 : Int32)))), .inl (xs (nx (x3 + (1 : Int32)))), .inr (.inr (some (11, 0)))], _)) (b := true) (by decide +kernel) rfl rfl ?_
  obtain ⟨hg173, h⟩ := zgd_inv h
  refine c_sld Z hX hg173 (by decide +kernel) ?_
  obtain ⟨r174, MC174, hc174, h⟩ := zbd_inv h
  refine lw_callC hW Z (as := [.inl (xs (nx (x3 + (1 : Int32)))), .inl (xs (nx (x3 + (2 : Int32)))), .inl (xs (nx (x3 + (3 : Int32))))]) (st := []) (m11_hour_met (zGC_ok hW) rfl hc174) cwL_122 m11_hour_in m11_hour_se rfl ⟨by exact Nat.le_of_ble_eq_true rfl, by exact Nat.le_of_ble_eq_true rfl⟩ rfl (by decide +kernel) hnk ?_
  refine zblq Z rfl [(.aload 2, 1), (.aload 0, 1), (.iload 3, 1), (.iconst 1, 1), (.iadd, 1)] (S' := (1019, [(0, .inr (.inr (some (2200, 0)))), (1, .inr (.inr (some (11, 0)))), (2, .inr (.inr (some (12, 0)))), (3, .inl x3)], [.inl (x3 + (1 : Int32)), .inr (.inr (some (2200, 0))), .inr (.inr (some (12, 0))), .inl r174], _)) (b := true) (by decide +kernel) rfl rfl ?_
  obtain ⟨hg175, h⟩ := zgd_inv h
  refine c_sld Z hX hg175 (by decide +kernel) ?_
  refine zblq Z rfl [(.aload 0, 1), (.iload 3, 1), (.iconst 2, 1), (.iadd, 1)] (S' := (1024, [(0, .inr (.inr (some (2200, 0)))), (1, .inr (.inr (some (11, 0)))), (2, .inr (.inr (some (12, 0)))), (3, .inl x3)], [.inl (x3 + (2 : Int32)), .inr (.inr (some (2200, 0))), .inl (xs (nx (x3 + (1 : Int32)))), .inr (.inr (some (12, 0))), .inl r174], _)) (b := true) (by decide +kernel) rfl rfl ?_
  obtain ⟨hg176, h⟩ := zgd_inv h
  refine c_sld Z hX hg176 (by decide +kernel) ?_
  refine zblq Z rfl [(.aload 0, 1), (.iload 3, 1), (.iconst 3, 1), (.iadd, 1)] (S' := (1029, [(0, .inr (.inr (some (2200, 0)))), (1, .inr (.inr (some (11, 0)))), (2, .inr (.inr (some (12, 0)))), (3, .inl x3)], [.inl (x3 + (3 : Int32)), .inr (.inr (some (2200, 0))), .inl (xs (nx (x3 + (2 : Int32)))), .inl (xs (nx (x3 + (1 : Int32)))), .inr (.inr (some (12, 0))), .inl r174], _)) (b := true) (by decide +kernel) rfl rfl ?_
  obtain ⟨hg177, h⟩ := zgd_inv h
  refine c_sld Z hX hg177 (by decide +kernel) ?_
  obtain ⟨r178, MR178, hc178, h⟩ := zbd_inv h
  refine lw_callR hW Z (as := [.inl (xs (nx (x3 + (1 : Int32)))), .inl (xs (nx (x3 + (2 : Int32)))), .inl (xs (nx (x3 + (3 : Int32))))]) (st := [.inl r174]) (m12_hour_met (zGR_ok hW) rfl hc178) cwL_125 m12_hour_in m12_hour_se rfl ⟨by exact Nat.le_of_ble_eq_true rfl, by exact Nat.le_of_ble_eq_true rfl⟩ rfl (by decide +kernel) hnk ?_
  refine zic_eq Z (off := 636) (tgt := 1669) (by decide +kernel) (by decide) (fun hb179 => ?_) (fun hb179 => ?_)
  · replace h := zite_t h hb179
    cases h
    exact K
  · replace h := zite_f h hb179
    cases h
def mL_26 (L : Nat) (xs : Nat → Int32) (x3 : Int32) (MC : cM) (MR : rM) : Option (cM × rM) := zgd (zin (x3 + (1 : Int32)) L) (zgd (zin (x3 + (2 : Int32)) L) (zbd (m11_place (xs (nx (x3 + (1 : Int32)))) (xs (nx (x3 + (2 : Int32)))) MC) (fun r182 MC182 => zgd (zin (x3 + (1 : Int32)) L) (zgd (zin (x3 + (2 : Int32)) L) (zbd (m12_place (xs (nx (x3 + (1 : Int32)))) (xs (nx (x3 + (2 : Int32)))) MR) (fun r185 MR185 => (if r182 = r185 then some (MC182, MR185) else none)))))))
set_option maxHeartbeats 4000000 in
theorem mL_26_ok {p : Program} {l : Launch} {e : Env} {s : State} {m : MethodId} {args : Array Value} {below : List Frame} {meth : Method} {c : Code} {Q : State → Prop} {D : va_G} {ad : zR → Nat} {ca : Nat → ClassId} {A : Nat → Prop} {base n k : Nat} {L : Nat} {xs : Nat → Int32} {x3 : Int32} {MC MC' : cM} {MR MR' : rM} (hW : zWh zUA base ad A) (Z : zOK (zCm p l e room_1 s m args below meth c Q code 4 R_law tbL (zGL D ad ca A))) (hX : va_X (ad (2200, 0)) L xs s s.heap ∧ ad (2200, 0) < s.heap.size ∧ ¬ A (ad (2200, 0))) (hnk : n ≤ room_1.cells ∧ k ≤ room_1.slots) (h : mL_26 L xs x3 MC MR = some (MC', MR')) (K : zGo (zCm p l e room_1 s m args below meth c Q code 4 R_law tbL (zGL D ad ca A)) n k (1669, [(0, .inr (.inr (some (2200, 0)))), (1, .inr (.inr (some (11, 0)))), (2, .inr (.inr (some (12, 0)))), (3, .inl x3)], [], zmix MC' MR')) : zGo (zCm p l e room_1 s m args below meth c Q code 4 R_law tbL (zGL D ad ca A)) n k (1038, [(0, .inr (.inr (some (2200, 0)))), (1, .inr (.inr (some (11, 0)))), (2, .inr (.inr (some (12, 0)))), (3, .inl x3)], [], zmix MC MR) := by
  unfold mL_26 at h
  refine zblq Z rfl [(.aload 1, 1), (.aload 0, 1), (.iload 3, 1), (.iconst 1, 1), (.iadd, 1)] (S' := (1043, [(0, .inr (.inr (some (2200, 0)))), (1, .inr (.inr (some (11, 0)))), (2, .inr (.inr (some (12, 0)))), (3, .inl x3)], [.inl (x3 + (1 : Int32)), .inr (.inr (some (2200, 0))), .inr (.inr (some (11, 0)))], _)) (b := true) (by decide +kernel) rfl rfl ?_
  obtain ⟨hg180, h⟩ := zgd_inv h
  refine c_sld Z hX hg180 (by decide +kernel) ?_
  refine zblq Z rfl [(.aload 0, 1), (.iload 3, 1), (.iconst 2, 1), (.iadd, 1)] (S' := (1048, [(0, .inr (.inr (some (2200, 0)))), (1, .inr (.inr (some (11, 0)))), (2, .inr (.inr (some (12, 0)))), (3, .inl x3)], [.inl (x3 + (2 : Int32)), .inr (.inr (some (2200, 0))), .inl (xs (nx (x3 + (1 : Int32)))), .inr (.inr (some (11, 0)))], _)) (b := true) (by decide +kernel) rfl rfl ?_
  obtain ⟨hg181, h⟩ := zgd_inv h
  refine c_sld Z hX hg181 (by decide +kernel) ?_
  obtain ⟨r182, MC182, hc182, h⟩ := zbd_inv h
  refine lw_callC hW Z (as := [.inl (xs (nx (x3 + (1 : Int32)))), .inl (xs (nx (x3 + (2 : Int32))))]) (st := []) (m11_place_met (zGC_ok hW) rfl hc182) cwL_126 m11_place_in m11_place_se rfl ⟨by exact Nat.le_of_ble_eq_true rfl, by exact Nat.le_of_ble_eq_true rfl⟩ rfl (by decide +kernel) hnk ?_
  refine zblq Z rfl [(.aload 2, 1), (.aload 0, 1), (.iload 3, 1), (.iconst 1, 1), (.iadd, 1)] (S' := (1057, [(0, .inr (.inr (some (2200, 0)))), (1, .inr (.inr (some (11, 0)))), (2, .inr (.inr (some (12, 0)))), (3, .inl x3)], [.inl (x3 + (1 : Int32)), .inr (.inr (some (2200, 0))), .inr (.inr (some (12, 0))), .inl r182], _)) (b := true) (by decide +kernel) rfl rfl ?_
  obtain ⟨hg183, h⟩ := zgd_inv h
  refine c_sld Z hX hg183 (by decide +kernel) ?_
  refine zblq Z rfl [(.aload 0, 1), (.iload 3, 1), (.iconst 2, 1), (.iadd, 1)] (S' := (1062, [(0, .inr (.inr (some (2200, 0)))), (1, .inr (.inr (some (11, 0)))), (2, .inr (.inr (some (12, 0)))), (3, .inl x3)], [.inl (x3 + (2 : Int32)), .inr (.inr (some (2200, 0))), .inl (xs (nx (x3 + (1 : Int32)))), .inr (.inr (some (12, 0))), .inl r182], _)) (b := true) (by decide +kernel) rfl rfl ?_
  obtain ⟨hg184, h⟩ := zgd_inv h
  refine c_sld Z hX hg184 (by decide +kernel) ?_
  obtain ⟨r185, MR185, hc185, h⟩ := zbd_inv h
  refine lw_callR hW Z (as := [.inl (xs (nx (x3 + (1 : Int32)))), .inl (xs (nx (x3 + (2 : Int32))))]) (st := [.inl r182]) (m12_place_met (zGR_ok hW) rfl hc185) cwL_129 m12_place_in m12_place_se rfl ⟨by exact Nat.le_of_ble_eq_true rfl, by exact Nat.le_of_ble_eq_true rfl⟩ rfl (by decide +kernel) hnk ?_
  refine zic_eq Z (off := 603) (tgt := 1669) (by decide +kernel) (by decide) (fun hb186 => ?_) (fun hb186 => ?_)
  · replace h := zite_t h hb186
    cases h
    exact K
  · replace h := zite_f h hb186
    cases h
def mL_27 (L : Nat) (xs : Nat → Int32) (x3 : Int32) (MC : cM) (MR : rM) : Option (cM × rM) := zgd (zin (x3 + (1 : Int32)) L) (zgd (zin (x3 + (2 : Int32)) L) (zbd (m11_cells (xs (nx (x3 + (1 : Int32)))) (xs (nx (x3 + (2 : Int32)))) MC) (fun r189 MC189 => zgd (zin (x3 + (1 : Int32)) L) (zgd (zin (x3 + (2 : Int32)) L) (zbd (m12_cells (xs (nx (x3 + (1 : Int32)))) (xs (nx (x3 + (2 : Int32)))) MR) (fun r192 MR192 => (if (lg_cmp r189 r192) = 0 then some (MC189, MR192) else none)))))))
set_option maxHeartbeats 4000000 in
theorem mL_27_ok {p : Program} {l : Launch} {e : Env} {s : State} {m : MethodId} {args : Array Value} {below : List Frame} {meth : Method} {c : Code} {Q : State → Prop} {D : va_G} {ad : zR → Nat} {ca : Nat → ClassId} {A : Nat → Prop} {base n k : Nat} {L : Nat} {xs : Nat → Int32} {x3 : Int32} {MC MC' : cM} {MR MR' : rM} (hW : zWh zUA base ad A) (Z : zOK (zCm p l e room_1 s m args below meth c Q code 4 R_law tbL (zGL D ad ca A))) (hX : va_X (ad (2200, 0)) L xs s s.heap ∧ ad (2200, 0) < s.heap.size ∧ ¬ A (ad (2200, 0))) (hnk : n ≤ room_1.cells ∧ k ≤ room_1.slots) (h : mL_27 L xs x3 MC MR = some (MC', MR')) (K : zGo (zCm p l e room_1 s m args below meth c Q code 4 R_law tbL (zGL D ad ca A)) n k (1669, [(0, .inr (.inr (some (2200, 0)))), (1, .inr (.inr (some (11, 0)))), (2, .inr (.inr (some (12, 0)))), (3, .inl x3)], [], zmix MC' MR')) : zGo (zCm p l e room_1 s m args below meth c Q code 4 R_law tbL (zGL D ad ca A)) n k (1071, [(0, .inr (.inr (some (2200, 0)))), (1, .inr (.inr (some (11, 0)))), (2, .inr (.inr (some (12, 0)))), (3, .inl x3)], [], zmix MC MR) := by
  unfold mL_27 at h
  refine zblq Z rfl [(.aload 1, 1), (.aload 0, 1), (.iload 3, 1), (.iconst 1, 1), (.iadd, 1)] (S' := (1076, [(0, .inr (.inr (some (2200, 0)))), (1, .inr (.inr (some (11, 0)))), (2, .inr (.inr (some (12, 0)))), (3, .inl x3)], [.inl (x3 + (1 : Int32)), .inr (.inr (some (2200, 0))), .inr (.inr (some (11, 0)))], _)) (b := true) (by decide +kernel) rfl rfl ?_
  obtain ⟨hg187, h⟩ := zgd_inv h
  refine c_sld Z hX hg187 (by decide +kernel) ?_
  refine zblq Z rfl [(.aload 0, 1), (.iload 3, 1), (.iconst 2, 1), (.iadd, 1)] (S' := (1081, [(0, .inr (.inr (some (2200, 0)))), (1, .inr (.inr (some (11, 0)))), (2, .inr (.inr (some (12, 0)))), (3, .inl x3)], [.inl (x3 + (2 : Int32)), .inr (.inr (some (2200, 0))), .inl (xs (nx (x3 + (1 : Int32)))), .inr (.inr (some (11, 0)))], _)) (b := true) (by decide +kernel) rfl rfl ?_
  obtain ⟨hg188, h⟩ := zgd_inv h
  refine c_sld Z hX hg188 (by decide +kernel) ?_
  obtain ⟨r189, MC189, hc189, h⟩ := zbd_inv h
  refine lw_callC hW Z (as := [.inl (xs (nx (x3 + (1 : Int32)))), .inl (xs (nx (x3 + (2 : Int32))))]) (st := []) (m11_cells_met (zGC_ok hW) rfl hc189) cwL_130 m11_cells_in m11_cells_se rfl ⟨by exact Nat.le_of_ble_eq_true rfl, by exact Nat.le_of_ble_eq_true rfl⟩ rfl (by decide +kernel) hnk ?_
  refine zblq Z rfl [(.aload 2, 1), (.aload 0, 1), (.iload 3, 1), (.iconst 1, 1), (.iadd, 1)] (S' := (1090, [(0, .inr (.inr (some (2200, 0)))), (1, .inr (.inr (some (11, 0)))), (2, .inr (.inr (some (12, 0)))), (3, .inl x3)], [.inl (x3 + (1 : Int32)), .inr (.inr (some (2200, 0))), .inr (.inr (some (12, 0))), .inr (.inl r189)], _)) (b := true) (by decide +kernel) rfl rfl ?_
  obtain ⟨hg190, h⟩ := zgd_inv h
  refine c_sld Z hX hg190 (by decide +kernel) ?_
  refine zblq Z rfl [(.aload 0, 1), (.iload 3, 1), (.iconst 2, 1), (.iadd, 1)] (S' := (1095, [(0, .inr (.inr (some (2200, 0)))), (1, .inr (.inr (some (11, 0)))), (2, .inr (.inr (some (12, 0)))), (3, .inl x3)], [.inl (x3 + (2 : Int32)), .inr (.inr (some (2200, 0))), .inl (xs (nx (x3 + (1 : Int32)))), .inr (.inr (some (12, 0))), .inr (.inl r189)], _)) (b := true) (by decide +kernel) rfl rfl ?_
  obtain ⟨hg191, h⟩ := zgd_inv h
  refine c_sld Z hX hg191 (by decide +kernel) ?_
  obtain ⟨r192, MR192, hc192, h⟩ := zbd_inv h
  refine lw_callR hW Z (as := [.inl (xs (nx (x3 + (1 : Int32)))), .inl (xs (nx (x3 + (2 : Int32))))]) (st := [.inr (.inl r189)]) (m12_cells_met (zGR_ok hW) rfl hc192) cwL_134 m12_cells_in m12_cells_se rfl ⟨by exact Nat.le_of_ble_eq_true rfl, by exact Nat.le_of_ble_eq_true rfl⟩ rfl (by decide +kernel) hnk ?_
  refine zblq Z rfl [(.lcmp, 1)] (S' := (1100, [(0, .inr (.inr (some (2200, 0)))), (1, .inr (.inr (some (11, 0)))), (2, .inr (.inr (some (12, 0)))), (3, .inl x3)], [.inl (lg_cmp r189 r192)], _)) (b := true) (by decide +kernel) rfl rfl ?_
  refine zif_eq Z (off := 569) (tgt := 1669) (by decide +kernel) (by decide) (fun hb193 => ?_) (fun hb193 => ?_)
  · replace h := zite_t h hb193
    cases h
    exact K
  · replace h := zite_f h hb193
    cases h
def mL_28 (L : Nat) (xs : Nat → Int32) (x3 : Int32) (MC : cM) (MR : rM) : Option (cM × rM) := zgd (zin (x3 + (1 : Int32)) L) (zgd (zin (x3 + (2 : Int32)) L) (zgd (zin (x3 + (3 : Int32)) L) (zbd (m11_program (xs (nx (x3 + (1 : Int32)))) ((zshlL (Int32.toInt64 (xs (nx (x3 + (2 : Int32))))) (32 : Int32)) ||| ((Int32.toInt64 (xs (nx (x3 + (3 : Int32))))) &&& (4294967295 : Int64))) MC) (fun r197 MC197 => zgd (zin (x3 + (1 : Int32)) L) (zgd (zin (x3 + (2 : Int32)) L) (zgd (zin (x3 + (3 : Int32)) L) (zbd (m12_program (xs (nx (x3 + (1 : Int32)))) ((zshlL (Int32.toInt64 (xs (nx (x3 + (2 : Int32))))) (32 : Int32)) ||| ((Int32.toInt64 (xs (nx (x3 + (3 : Int32))))) &&& (4294967295 : Int64))) MR) (fun r201 MR201 => (if r197 = r201 then some (MC197, MR201) else none)))))))))
set_option maxHeartbeats 4000000 in
theorem mL_28_ok {p : Program} {l : Launch} {e : Env} {s : State} {m : MethodId} {args : Array Value} {below : List Frame} {meth : Method} {c : Code} {Q : State → Prop} {D : va_G} {ad : zR → Nat} {ca : Nat → ClassId} {A : Nat → Prop} {base n k : Nat} {L : Nat} {xs : Nat → Int32} {x3 : Int32} {MC MC' : cM} {MR MR' : rM} (hW : zWh zUA base ad A) (Z : zOK (zCm p l e room_1 s m args below meth c Q code 4 R_law tbL (zGL D ad ca A))) (hX : va_X (ad (2200, 0)) L xs s s.heap ∧ ad (2200, 0) < s.heap.size ∧ ¬ A (ad (2200, 0))) (hnk : n ≤ room_1.cells ∧ k ≤ room_1.slots) (h : mL_28 L xs x3 MC MR = some (MC', MR')) (K : zGo (zCm p l e room_1 s m args below meth c Q code 4 R_law tbL (zGL D ad ca A)) n k (1669, [(0, .inr (.inr (some (2200, 0)))), (1, .inr (.inr (some (11, 0)))), (2, .inr (.inr (some (12, 0)))), (3, .inl x3)], [], zmix MC' MR')) : zGo (zCm p l e room_1 s m args below meth c Q code 4 R_law tbL (zGL D ad ca A)) n k (1105, [(0, .inr (.inr (some (2200, 0)))), (1, .inr (.inr (some (11, 0)))), (2, .inr (.inr (some (12, 0)))), (3, .inl x3)], [], zmix MC MR) := by
  unfold mL_28 at h
  refine zblq Z rfl [(.aload 1, 1), (.aload 0, 1), (.iload 3, 1), (.iconst 1, 1), (.iadd, 1)] (S' := (1110, [(0, .inr (.inr (some (2200, 0)))), (1, .inr (.inr (some (11, 0)))), (2, .inr (.inr (some (12, 0)))), (3, .inl x3)], [.inl (x3 + (1 : Int32)), .inr (.inr (some (2200, 0))), .inr (.inr (some (11, 0)))], _)) (b := true) (by decide +kernel) rfl rfl ?_
  obtain ⟨hg194, h⟩ := zgd_inv h
  refine c_sld Z hX hg194 (by decide +kernel) ?_
  refine zblq Z rfl [(.aload 0, 1), (.iload 3, 1), (.iconst 2, 1), (.iadd, 1)] (S' := (1115, [(0, .inr (.inr (some (2200, 0)))), (1, .inr (.inr (some (11, 0)))), (2, .inr (.inr (some (12, 0)))), (3, .inl x3)], [.inl (x3 + (2 : Int32)), .inr (.inr (some (2200, 0))), .inl (xs (nx (x3 + (1 : Int32)))), .inr (.inr (some (11, 0)))], _)) (b := true) (by decide +kernel) rfl rfl ?_
  obtain ⟨hg195, h⟩ := zgd_inv h
  refine c_sld Z hX hg195 (by decide +kernel) ?_
  refine zblq Z rfl [(.i2l, 1), (.iconst 32, 2), (.lshl, 1), (.aload 0, 1), (.iload 3, 1), (.iconst 3, 1), (.iadd, 1)] (S' := (1124, [(0, .inr (.inr (some (2200, 0)))), (1, .inr (.inr (some (11, 0)))), (2, .inr (.inr (some (12, 0)))), (3, .inl x3)], [.inl (x3 + (3 : Int32)), .inr (.inr (some (2200, 0))), .inr (.inl (zshlL (Int32.toInt64 (xs (nx (x3 + (2 : Int32))))) (32 : Int32))), .inl (xs (nx (x3 + (1 : Int32)))), .inr (.inr (some (11, 0)))], _)) (b := true) (by decide +kernel) rfl rfl ?_
  obtain ⟨hg196, h⟩ := zgd_inv h
  refine c_sld Z hX hg196 (by decide +kernel) ?_
  refine zblq Z rfl [(.i2l, 1), (.goto_w 4294967295, 3), (.land, 1), (.lor, 1)] (S' := (1131, [(0, .inr (.inr (some (2200, 0)))), (1, .inr (.inr (some (11, 0)))), (2, .inr (.inr (some (12, 0)))), (3, .inl x3)], [.inr (.inl ((zshlL (Int32.toInt64 (xs (nx (x3 + (2 : Int32))))) (32 : Int32)) ||| ((Int32.toInt64 (xs (nx (x3 + (3 : Int32))))) &&& (4294967295 : Int64)))), .inl (xs (nx (x3 + (1 : Int32)))), .inr (.inr (some (11, 0)))], _)) (b := true) (by decide +kernel) rfl rfl ?_
  obtain ⟨r197, MC197, hc197, h⟩ := zbd_inv h
  refine lw_callC hW Z (as := [.inl (xs (nx (x3 + (1 : Int32)))), .inr (.inl ((zshlL (Int32.toInt64 (xs (nx (x3 + (2 : Int32))))) (32 : Int32)) ||| ((Int32.toInt64 (xs (nx (x3 + (3 : Int32))))) &&& (4294967295 : Int64))))]) (st := []) (m11_program_met (zGC_ok hW) rfl hc197) cwL_135 m11_program_in m11_program_se rfl ⟨by exact Nat.le_of_ble_eq_true rfl, by exact Nat.le_of_ble_eq_true rfl⟩ rfl (by decide +kernel) hnk ?_
  refine zblq Z rfl [(.aload 2, 1), (.aload 0, 1), (.iload 3, 1), (.iconst 1, 1), (.iadd, 1)] (S' := (1139, [(0, .inr (.inr (some (2200, 0)))), (1, .inr (.inr (some (11, 0)))), (2, .inr (.inr (some (12, 0)))), (3, .inl x3)], [.inl (x3 + (1 : Int32)), .inr (.inr (some (2200, 0))), .inr (.inr (some (12, 0))), .inl r197], _)) (b := true) (by decide +kernel) rfl rfl ?_
  obtain ⟨hg198, h⟩ := zgd_inv h
  refine c_sld Z hX hg198 (by decide +kernel) ?_
  refine zblq Z rfl [(.aload 0, 1), (.iload 3, 1), (.iconst 2, 1), (.iadd, 1)] (S' := (1144, [(0, .inr (.inr (some (2200, 0)))), (1, .inr (.inr (some (11, 0)))), (2, .inr (.inr (some (12, 0)))), (3, .inl x3)], [.inl (x3 + (2 : Int32)), .inr (.inr (some (2200, 0))), .inl (xs (nx (x3 + (1 : Int32)))), .inr (.inr (some (12, 0))), .inl r197], _)) (b := true) (by decide +kernel) rfl rfl ?_
  obtain ⟨hg199, h⟩ := zgd_inv h
  refine c_sld Z hX hg199 (by decide +kernel) ?_
  refine zblq Z rfl [(.i2l, 1), (.iconst 32, 2), (.lshl, 1), (.aload 0, 1), (.iload 3, 1), (.iconst 3, 1), (.iadd, 1)] (S' := (1153, [(0, .inr (.inr (some (2200, 0)))), (1, .inr (.inr (some (11, 0)))), (2, .inr (.inr (some (12, 0)))), (3, .inl x3)], [.inl (x3 + (3 : Int32)), .inr (.inr (some (2200, 0))), .inr (.inl (zshlL (Int32.toInt64 (xs (nx (x3 + (2 : Int32))))) (32 : Int32))), .inl (xs (nx (x3 + (1 : Int32)))), .inr (.inr (some (12, 0))), .inl r197], _)) (b := true) (by decide +kernel) rfl rfl ?_
  obtain ⟨hg200, h⟩ := zgd_inv h
  refine c_sld Z hX hg200 (by decide +kernel) ?_
  refine zblq Z rfl [(.i2l, 1), (.goto_w 4294967295, 3), (.land, 1), (.lor, 1)] (S' := (1160, [(0, .inr (.inr (some (2200, 0)))), (1, .inr (.inr (some (11, 0)))), (2, .inr (.inr (some (12, 0)))), (3, .inl x3)], [.inr (.inl ((zshlL (Int32.toInt64 (xs (nx (x3 + (2 : Int32))))) (32 : Int32)) ||| ((Int32.toInt64 (xs (nx (x3 + (3 : Int32))))) &&& (4294967295 : Int64)))), .inl (xs (nx (x3 + (1 : Int32)))), .inr (.inr (some (12, 0))), .inl r197], _)) (b := true) (by decide +kernel) rfl rfl ?_
  obtain ⟨r201, MR201, hc201, h⟩ := zbd_inv h
  refine lw_callR hW Z (as := [.inl (xs (nx (x3 + (1 : Int32)))), .inr (.inl ((zshlL (Int32.toInt64 (xs (nx (x3 + (2 : Int32))))) (32 : Int32)) ||| ((Int32.toInt64 (xs (nx (x3 + (3 : Int32))))) &&& (4294967295 : Int64))))]) (st := [.inl r197]) (m12_program_met (zGR_ok hW) rfl hc201) cwL_139 m12_program_in m12_program_se rfl ⟨by exact Nat.le_of_ble_eq_true rfl, by exact Nat.le_of_ble_eq_true rfl⟩ rfl (by decide +kernel) hnk ?_
  refine zic_eq Z (off := 506) (tgt := 1669) (by decide +kernel) (by decide) (fun hb202 => ?_) (fun hb202 => ?_)
  · replace h := zite_t h hb202
    cases h
    exact K
  · replace h := zite_f h hb202
    cases h
def mL_29 (L : Nat) (xs : Nat → Int32) (x3 : Int32) (MC : cM) (MR : rM) : Option (cM × rM) := zbd (m11_hand MC) (fun r203 MC203 => zbd (m12_hand MR) (fun r204 MR204 => (if r203 = r204 then some (MC203, MR204) else none)))
set_option maxHeartbeats 4000000 in
theorem mL_29_ok {p : Program} {l : Launch} {e : Env} {s : State} {m : MethodId} {args : Array Value} {below : List Frame} {meth : Method} {c : Code} {Q : State → Prop} {D : va_G} {ad : zR → Nat} {ca : Nat → ClassId} {A : Nat → Prop} {base n k : Nat} {L : Nat} {xs : Nat → Int32} {x3 : Int32} {MC MC' : cM} {MR MR' : rM} (hW : zWh zUA base ad A) (Z : zOK (zCm p l e room_1 s m args below meth c Q code 4 R_law tbL (zGL D ad ca A))) (hX : va_X (ad (2200, 0)) L xs s s.heap ∧ ad (2200, 0) < s.heap.size ∧ ¬ A (ad (2200, 0))) (hnk : n ≤ room_1.cells ∧ k ≤ room_1.slots) (h : mL_29 L xs x3 MC MR = some (MC', MR')) (K : zGo (zCm p l e room_1 s m args below meth c Q code 4 R_law tbL (zGL D ad ca A)) n k (1669, [(0, .inr (.inr (some (2200, 0)))), (1, .inr (.inr (some (11, 0)))), (2, .inr (.inr (some (12, 0)))), (3, .inl x3)], [], zmix MC' MR')) : zGo (zCm p l e room_1 s m args below meth c Q code 4 R_law tbL (zGL D ad ca A)) n k (1168, [(0, .inr (.inr (some (2200, 0)))), (1, .inr (.inr (some (11, 0)))), (2, .inr (.inr (some (12, 0)))), (3, .inl x3)], [], zmix MC MR) := by
  unfold mL_29 at h
  refine zblq Z rfl [(.aload 1, 1)] (S' := (1169, [(0, .inr (.inr (some (2200, 0)))), (1, .inr (.inr (some (11, 0)))), (2, .inr (.inr (some (12, 0)))), (3, .inl x3)], [.inr (.inr (some (11, 0)))], _)) (b := true) (by decide +kernel) rfl rfl ?_
  obtain ⟨r203, MC203, hc203, h⟩ := zbd_inv h
  refine lw_callC hW Z (as := []) (st := []) (m11_hand_met (zGC_ok hW) rfl hc203) cwL_140 m11_hand_in m11_hand_se rfl ⟨by exact Nat.le_of_ble_eq_true rfl, by exact Nat.le_of_ble_eq_true rfl⟩ rfl (by decide +kernel) hnk ?_
  refine zblq Z rfl [(.aload 2, 1)] (S' := (1173, [(0, .inr (.inr (some (2200, 0)))), (1, .inr (.inr (some (11, 0)))), (2, .inr (.inr (some (12, 0)))), (3, .inl x3)], [.inr (.inr (some (12, 0))), .inl r203], _)) (b := true) (by decide +kernel) rfl rfl ?_
  obtain ⟨r204, MR204, hc204, h⟩ := zbd_inv h
  refine lw_callR hW Z (as := []) (st := [.inl r203]) (m12_hand_met (zGR_ok hW) rfl hc204) cwL_143 m12_hand_in m12_hand_se rfl ⟨by exact Nat.le_of_ble_eq_true rfl, by exact Nat.le_of_ble_eq_true rfl⟩ rfl (by decide +kernel) hnk ?_
  refine zic_eq Z (off := 493) (tgt := 1669) (by decide +kernel) (by decide) (fun hb205 => ?_) (fun hb205 => ?_)
  · replace h := zite_t h hb205
    cases h
    exact K
  · replace h := zite_f h hb205
    cases h
def mL_30 (L : Nat) (xs : Nat → Int32) (x3 : Int32) (MC : cM) (MR : rM) : Option (cM × rM) := zgd (zin (x3 + (1 : Int32)) L) (zgd (zin (x3 + (2 : Int32)) L) (zgd (zin (x3 + (3 : Int32)) L) (zbd (m11_tear (xs (nx (x3 + (1 : Int32)))) (xs (nx (x3 + (2 : Int32)))) (xs (nx (x3 + (3 : Int32)))) MC) (fun r209 MC209 => zgd (zin (x3 + (1 : Int32)) L) (zgd (zin (x3 + (2 : Int32)) L) (zgd (zin (x3 + (3 : Int32)) L) (zbd (m12_tear (xs (nx (x3 + (1 : Int32)))) (xs (nx (x3 + (2 : Int32)))) (xs (nx (x3 + (3 : Int32)))) MR) (fun r213 MR213 => (if r209 = r213 then some (MC209, MR213) else none)))))))))
set_option maxHeartbeats 4000000 in
theorem mL_30_ok {p : Program} {l : Launch} {e : Env} {s : State} {m : MethodId} {args : Array Value} {below : List Frame} {meth : Method} {c : Code} {Q : State → Prop} {D : va_G} {ad : zR → Nat} {ca : Nat → ClassId} {A : Nat → Prop} {base n k : Nat} {L : Nat} {xs : Nat → Int32} {x3 : Int32} {MC MC' : cM} {MR MR' : rM} (hW : zWh zUA base ad A) (Z : zOK (zCm p l e room_1 s m args below meth c Q code 4 R_law tbL (zGL D ad ca A))) (hX : va_X (ad (2200, 0)) L xs s s.heap ∧ ad (2200, 0) < s.heap.size ∧ ¬ A (ad (2200, 0))) (hnk : n ≤ room_1.cells ∧ k ≤ room_1.slots) (h : mL_30 L xs x3 MC MR = some (MC', MR')) (K : zGo (zCm p l e room_1 s m args below meth c Q code 4 R_law tbL (zGL D ad ca A)) n k (1669, [(0, .inr (.inr (some (2200, 0)))), (1, .inr (.inr (some (11, 0)))), (2, .inr (.inr (some (12, 0)))), (3, .inl x3)], [], zmix MC' MR')) : zGo (zCm p l e room_1 s m args below meth c Q code 4 R_law tbL (zGL D ad ca A)) n k (1181, [(0, .inr (.inr (some (2200, 0)))), (1, .inr (.inr (some (11, 0)))), (2, .inr (.inr (some (12, 0)))), (3, .inl x3)], [], zmix MC MR) := by
  unfold mL_30 at h
  refine zblq Z rfl [(.aload 1, 1), (.aload 0, 1), (.iload 3, 1), (.iconst 1, 1), (.iadd, 1)] (S' := (1186, [(0, .inr (.inr (some (2200, 0)))), (1, .inr (.inr (some (11, 0)))), (2, .inr (.inr (some (12, 0)))), (3, .inl x3)], [.inl (x3 + (1 : Int32)), .inr (.inr (some (2200, 0))), .inr (.inr (some (11, 0)))], _)) (b := true) (by decide +kernel) rfl rfl ?_
  obtain ⟨hg206, h⟩ := zgd_inv h
  refine c_sld Z hX hg206 (by decide +kernel) ?_
  refine zblq Z rfl [(.aload 0, 1), (.iload 3, 1), (.iconst 2, 1), (.iadd, 1)] (S' := (1191, [(0, .inr (.inr (some (2200, 0)))), (1, .inr (.inr (some (11, 0)))), (2, .inr (.inr (some (12, 0)))), (3, .inl x3)], [.inl (x3 + (2 : Int32)), .inr (.inr (some (2200, 0))), .inl (xs (nx (x3 + (1 : Int32)))), .inr (.inr (some (11, 0)))], _)) (b := true) (by decide +kernel) rfl rfl ?_
  obtain ⟨hg207, h⟩ := zgd_inv h
  refine c_sld Z hX hg207 (by decide +kernel) ?_
  refine zblq Z rfl [(.aload 0, 1), (.iload 3, 1), (.iconst 3, 1), (.iadd, 1)] (S' := (1196, [(0, .inr (.inr (some (2200, 0)))), (1, .inr (.inr (some (11, 0)))), (2, .inr (.inr (some (12, 0)))), (3, .inl x3)], [.inl (x3 + (3 : Int32)), .inr (.inr (some (2200, 0))), .inl (xs (nx (x3 + (2 : Int32)))), .inl (xs (nx (x3 + (1 : Int32)))), .inr (.inr (some (11, 0)))], _)) (b := true) (by decide +kernel) rfl rfl ?_
  obtain ⟨hg208, h⟩ := zgd_inv h
  refine c_sld Z hX hg208 (by decide +kernel) ?_
  obtain ⟨r209, MC209, hc209, h⟩ := zbd_inv h
  refine lw_callC hW Z (as := [.inl (xs (nx (x3 + (1 : Int32)))), .inl (xs (nx (x3 + (2 : Int32)))), .inl (xs (nx (x3 + (3 : Int32))))]) (st := []) (m11_tear_met (zGC_ok hW) rfl hc209) cwL_144 m11_tear_in m11_tear_se rfl ⟨by exact Nat.le_of_ble_eq_true rfl, by exact Nat.le_of_ble_eq_true rfl⟩ rfl (by decide +kernel) hnk ?_
  refine zblq Z rfl [(.aload 2, 1), (.aload 0, 1), (.iload 3, 1), (.iconst 1, 1), (.iadd, 1)] (S' := (1205, [(0, .inr (.inr (some (2200, 0)))), (1, .inr (.inr (some (11, 0)))), (2, .inr (.inr (some (12, 0)))), (3, .inl x3)], [.inl (x3 + (1 : Int32)), .inr (.inr (some (2200, 0))), .inr (.inr (some (12, 0))), .inl r209], _)) (b := true) (by decide +kernel) rfl rfl ?_
  obtain ⟨hg210, h⟩ := zgd_inv h
  refine c_sld Z hX hg210 (by decide +kernel) ?_
  refine zblq Z rfl [(.aload 0, 1), (.iload 3, 1), (.iconst 2, 1), (.iadd, 1)] (S' := (1210, [(0, .inr (.inr (some (2200, 0)))), (1, .inr (.inr (some (11, 0)))), (2, .inr (.inr (some (12, 0)))), (3, .inl x3)], [.inl (x3 + (2 : Int32)), .inr (.inr (some (2200, 0))), .inl (xs (nx (x3 + (1 : Int32)))), .inr (.inr (some (12, 0))), .inl r209], _)) (b := true) (by decide +kernel) rfl rfl ?_
  obtain ⟨hg211, h⟩ := zgd_inv h
  refine c_sld Z hX hg211 (by decide +kernel) ?_
  refine zblq Z rfl [(.aload 0, 1), (.iload 3, 1), (.iconst 3, 1), (.iadd, 1)] (S' := (1215, [(0, .inr (.inr (some (2200, 0)))), (1, .inr (.inr (some (11, 0)))), (2, .inr (.inr (some (12, 0)))), (3, .inl x3)], [.inl (x3 + (3 : Int32)), .inr (.inr (some (2200, 0))), .inl (xs (nx (x3 + (2 : Int32)))), .inl (xs (nx (x3 + (1 : Int32)))), .inr (.inr (some (12, 0))), .inl r209], _)) (b := true) (by decide +kernel) rfl rfl ?_
  obtain ⟨hg212, h⟩ := zgd_inv h
  refine c_sld Z hX hg212 (by decide +kernel) ?_
  obtain ⟨r213, MR213, hc213, h⟩ := zbd_inv h
  refine lw_callR hW Z (as := [.inl (xs (nx (x3 + (1 : Int32)))), .inl (xs (nx (x3 + (2 : Int32)))), .inl (xs (nx (x3 + (3 : Int32))))]) (st := [.inl r209]) (m12_tear_met (zGR_ok hW) rfl hc213) cwL_147 m12_tear_in m12_tear_se rfl ⟨by exact Nat.le_of_ble_eq_true rfl, by exact Nat.le_of_ble_eq_true rfl⟩ rfl (by decide +kernel) hnk ?_
  refine zic_eq Z (off := 450) (tgt := 1669) (by decide +kernel) (by decide) (fun hb214 => ?_) (fun hb214 => ?_)
  · replace h := zite_t h hb214
    cases h
    exact K
  · replace h := zite_f h hb214
    cases h
def mL_31 (L : Nat) (xs : Nat → Int32) (x3 : Int32) (MC : cM) (MR : rM) : Option (cM × rM) := zgd (zin (x3 + (1 : Int32)) L) (zgd (zin (x3 + (2 : Int32)) L) (zbd (m11_has (xs (nx (x3 + (1 : Int32)))) (xs (nx (x3 + (2 : Int32)))) MC) (fun r217 MC217 => zgd (zin (x3 + (1 : Int32)) L) (zgd (zin (x3 + (2 : Int32)) L) (zbd (m12_has (xs (nx (x3 + (1 : Int32)))) (xs (nx (x3 + (2 : Int32)))) MR) (fun r220 MR220 => (if r217 = r220 then some (MC217, MR220) else none)))))))
set_option maxHeartbeats 4000000 in
theorem mL_31_ok {p : Program} {l : Launch} {e : Env} {s : State} {m : MethodId} {args : Array Value} {below : List Frame} {meth : Method} {c : Code} {Q : State → Prop} {D : va_G} {ad : zR → Nat} {ca : Nat → ClassId} {A : Nat → Prop} {base n k : Nat} {L : Nat} {xs : Nat → Int32} {x3 : Int32} {MC MC' : cM} {MR MR' : rM} (hW : zWh zUA base ad A) (Z : zOK (zCm p l e room_1 s m args below meth c Q code 4 R_law tbL (zGL D ad ca A))) (hX : va_X (ad (2200, 0)) L xs s s.heap ∧ ad (2200, 0) < s.heap.size ∧ ¬ A (ad (2200, 0))) (hnk : n ≤ room_1.cells ∧ k ≤ room_1.slots) (h : mL_31 L xs x3 MC MR = some (MC', MR')) (K : zGo (zCm p l e room_1 s m args below meth c Q code 4 R_law tbL (zGL D ad ca A)) n k (1669, [(0, .inr (.inr (some (2200, 0)))), (1, .inr (.inr (some (11, 0)))), (2, .inr (.inr (some (12, 0)))), (3, .inl x3)], [], zmix MC' MR')) : zGo (zCm p l e room_1 s m args below meth c Q code 4 R_law tbL (zGL D ad ca A)) n k (1224, [(0, .inr (.inr (some (2200, 0)))), (1, .inr (.inr (some (11, 0)))), (2, .inr (.inr (some (12, 0)))), (3, .inl x3)], [], zmix MC MR) := by
  unfold mL_31 at h
  refine zblq Z rfl [(.aload 1, 1), (.aload 0, 1), (.iload 3, 1), (.iconst 1, 1), (.iadd, 1)] (S' := (1229, [(0, .inr (.inr (some (2200, 0)))), (1, .inr (.inr (some (11, 0)))), (2, .inr (.inr (some (12, 0)))), (3, .inl x3)], [.inl (x3 + (1 : Int32)), .inr (.inr (some (2200, 0))), .inr (.inr (some (11, 0)))], _)) (b := true) (by decide +kernel) rfl rfl ?_
  obtain ⟨hg215, h⟩ := zgd_inv h
  refine c_sld Z hX hg215 (by decide +kernel) ?_
  refine zblq Z rfl [(.aload 0, 1), (.iload 3, 1), (.iconst 2, 1), (.iadd, 1)] (S' := (1234, [(0, .inr (.inr (some (2200, 0)))), (1, .inr (.inr (some (11, 0)))), (2, .inr (.inr (some (12, 0)))), (3, .inl x3)], [.inl (x3 + (2 : Int32)), .inr (.inr (some (2200, 0))), .inl (xs (nx (x3 + (1 : Int32)))), .inr (.inr (some (11, 0)))], _)) (b := true) (by decide +kernel) rfl rfl ?_
  obtain ⟨hg216, h⟩ := zgd_inv h
  refine c_sld Z hX hg216 (by decide +kernel) ?_
  obtain ⟨r217, MC217, hc217, h⟩ := zbd_inv h
  refine lw_callC hW Z (as := [.inl (xs (nx (x3 + (1 : Int32)))), .inl (xs (nx (x3 + (2 : Int32))))]) (st := []) (m11_has_met (zGC_ok hW) rfl hc217) cwL_148 m11_has_in m11_has_se rfl ⟨by exact Nat.le_of_ble_eq_true rfl, by exact Nat.le_of_ble_eq_true rfl⟩ rfl (by decide +kernel) hnk ?_
  refine zblq Z rfl [(.aload 2, 1), (.aload 0, 1), (.iload 3, 1), (.iconst 1, 1), (.iadd, 1)] (S' := (1243, [(0, .inr (.inr (some (2200, 0)))), (1, .inr (.inr (some (11, 0)))), (2, .inr (.inr (some (12, 0)))), (3, .inl x3)], [.inl (x3 + (1 : Int32)), .inr (.inr (some (2200, 0))), .inr (.inr (some (12, 0))), .inl r217], _)) (b := true) (by decide +kernel) rfl rfl ?_
  obtain ⟨hg218, h⟩ := zgd_inv h
  refine c_sld Z hX hg218 (by decide +kernel) ?_
  refine zblq Z rfl [(.aload 0, 1), (.iload 3, 1), (.iconst 2, 1), (.iadd, 1)] (S' := (1248, [(0, .inr (.inr (some (2200, 0)))), (1, .inr (.inr (some (11, 0)))), (2, .inr (.inr (some (12, 0)))), (3, .inl x3)], [.inl (x3 + (2 : Int32)), .inr (.inr (some (2200, 0))), .inl (xs (nx (x3 + (1 : Int32)))), .inr (.inr (some (12, 0))), .inl r217], _)) (b := true) (by decide +kernel) rfl rfl ?_
  obtain ⟨hg219, h⟩ := zgd_inv h
  refine c_sld Z hX hg219 (by decide +kernel) ?_
  obtain ⟨r220, MR220, hc220, h⟩ := zbd_inv h
  refine lw_callR hW Z (as := [.inl (xs (nx (x3 + (1 : Int32)))), .inl (xs (nx (x3 + (2 : Int32))))]) (st := [.inl r217]) (m12_has_met (zGR_ok hW) rfl hc220) cwL_151 m12_has_in m12_has_se rfl ⟨by exact Nat.le_of_ble_eq_true rfl, by exact Nat.le_of_ble_eq_true rfl⟩ rfl (by decide +kernel) hnk ?_
  refine zic_eq Z (off := 417) (tgt := 1669) (by decide +kernel) (by decide) (fun hb221 => ?_) (fun hb221 => ?_)
  · replace h := zite_t h hb221
    cases h
    exact K
  · replace h := zite_f h hb221
    cases h
def mL_32 (L : Nat) (xs : Nat → Int32) (x3 : Int32) (MC : cM) (MR : rM) : Option (cM × rM) := zgd (zin (x3 + (1 : Int32)) L) (zbd (m11_begin (xs (nx (x3 + (1 : Int32)))) MC) (fun r223 MC223 => zgd (zin (x3 + (1 : Int32)) L) (zbd (m12_begin (xs (nx (x3 + (1 : Int32)))) MR) (fun r225 MR225 => (if r223 = r225 then some (MC223, MR225) else none)))))
set_option maxHeartbeats 4000000 in
theorem mL_32_ok {p : Program} {l : Launch} {e : Env} {s : State} {m : MethodId} {args : Array Value} {below : List Frame} {meth : Method} {c : Code} {Q : State → Prop} {D : va_G} {ad : zR → Nat} {ca : Nat → ClassId} {A : Nat → Prop} {base n k : Nat} {L : Nat} {xs : Nat → Int32} {x3 : Int32} {MC MC' : cM} {MR MR' : rM} (hW : zWh zUA base ad A) (Z : zOK (zCm p l e room_1 s m args below meth c Q code 4 R_law tbL (zGL D ad ca A))) (hX : va_X (ad (2200, 0)) L xs s s.heap ∧ ad (2200, 0) < s.heap.size ∧ ¬ A (ad (2200, 0))) (hnk : n ≤ room_1.cells ∧ k ≤ room_1.slots) (h : mL_32 L xs x3 MC MR = some (MC', MR')) (K : zGo (zCm p l e room_1 s m args below meth c Q code 4 R_law tbL (zGL D ad ca A)) n k (1669, [(0, .inr (.inr (some (2200, 0)))), (1, .inr (.inr (some (11, 0)))), (2, .inr (.inr (some (12, 0)))), (3, .inl x3)], [], zmix MC' MR')) : zGo (zCm p l e room_1 s m args below meth c Q code 4 R_law tbL (zGL D ad ca A)) n k (1257, [(0, .inr (.inr (some (2200, 0)))), (1, .inr (.inr (some (11, 0)))), (2, .inr (.inr (some (12, 0)))), (3, .inl x3)], [], zmix MC MR) := by
  unfold mL_32 at h
  refine zblq Z rfl [(.aload 1, 1), (.aload 0, 1), (.iload 3, 1), (.iconst 1, 1), (.iadd, 1)] (S' := (1262, [(0, .inr (.inr (some (2200, 0)))), (1, .inr (.inr (some (11, 0)))), (2, .inr (.inr (some (12, 0)))), (3, .inl x3)], [.inl (x3 + (1 : Int32)), .inr (.inr (some (2200, 0))), .inr (.inr (some (11, 0)))], _)) (b := true) (by decide +kernel) rfl rfl ?_
  obtain ⟨hg222, h⟩ := zgd_inv h
  refine c_sld Z hX hg222 (by decide +kernel) ?_
  obtain ⟨r223, MC223, hc223, h⟩ := zbd_inv h
  refine lw_callC hW Z (as := [.inl (xs (nx (x3 + (1 : Int32))))]) (st := []) (m11_begin_met (zGC_ok hW) rfl hc223) cwL_152 m11_begin_in m11_begin_se rfl ⟨by exact Nat.le_of_ble_eq_true rfl, by exact Nat.le_of_ble_eq_true rfl⟩ rfl (by decide +kernel) hnk ?_
  refine zblq Z rfl [(.aload 2, 1), (.aload 0, 1), (.iload 3, 1), (.iconst 1, 1), (.iadd, 1)] (S' := (1271, [(0, .inr (.inr (some (2200, 0)))), (1, .inr (.inr (some (11, 0)))), (2, .inr (.inr (some (12, 0)))), (3, .inl x3)], [.inl (x3 + (1 : Int32)), .inr (.inr (some (2200, 0))), .inr (.inr (some (12, 0))), .inl r223], _)) (b := true) (by decide +kernel) rfl rfl ?_
  obtain ⟨hg224, h⟩ := zgd_inv h
  refine c_sld Z hX hg224 (by decide +kernel) ?_
  obtain ⟨r225, MR225, hc225, h⟩ := zbd_inv h
  refine lw_callR hW Z (as := [.inl (xs (nx (x3 + (1 : Int32))))]) (st := [.inl r223]) (m12_begin_met (zGR_ok hW) rfl hc225) cwL_155 m12_begin_in m12_begin_se rfl ⟨by exact Nat.le_of_ble_eq_true rfl, by exact Nat.le_of_ble_eq_true rfl⟩ rfl (by decide +kernel) hnk ?_
  refine zic_eq Z (off := 394) (tgt := 1669) (by decide +kernel) (by decide) (fun hb226 => ?_) (fun hb226 => ?_)
  · replace h := zite_t h hb226
    cases h
    exact K
  · replace h := zite_f h hb226
    cases h
def mL_33 (L : Nat) (xs : Nat → Int32) (x3 : Int32) (MC : cM) (MR : rM) : Option (cM × rM) := zgd (zin (x3 + (1 : Int32)) L) (zbd (m11_days (xs (nx (x3 + (1 : Int32)))) MC) (fun r228 MC228 => zgd (zin (x3 + (1 : Int32)) L) (zbd (m12_days (xs (nx (x3 + (1 : Int32)))) MR) (fun r230 MR230 => (if r228 = r230 then some (MC228, MR230) else none)))))
set_option maxHeartbeats 4000000 in
theorem mL_33_ok {p : Program} {l : Launch} {e : Env} {s : State} {m : MethodId} {args : Array Value} {below : List Frame} {meth : Method} {c : Code} {Q : State → Prop} {D : va_G} {ad : zR → Nat} {ca : Nat → ClassId} {A : Nat → Prop} {base n k : Nat} {L : Nat} {xs : Nat → Int32} {x3 : Int32} {MC MC' : cM} {MR MR' : rM} (hW : zWh zUA base ad A) (Z : zOK (zCm p l e room_1 s m args below meth c Q code 4 R_law tbL (zGL D ad ca A))) (hX : va_X (ad (2200, 0)) L xs s s.heap ∧ ad (2200, 0) < s.heap.size ∧ ¬ A (ad (2200, 0))) (hnk : n ≤ room_1.cells ∧ k ≤ room_1.slots) (h : mL_33 L xs x3 MC MR = some (MC', MR')) (K : zGo (zCm p l e room_1 s m args below meth c Q code 4 R_law tbL (zGL D ad ca A)) n k (1669, [(0, .inr (.inr (some (2200, 0)))), (1, .inr (.inr (some (11, 0)))), (2, .inr (.inr (some (12, 0)))), (3, .inl x3)], [], zmix MC' MR')) : zGo (zCm p l e room_1 s m args below meth c Q code 4 R_law tbL (zGL D ad ca A)) n k (1280, [(0, .inr (.inr (some (2200, 0)))), (1, .inr (.inr (some (11, 0)))), (2, .inr (.inr (some (12, 0)))), (3, .inl x3)], [], zmix MC MR) := by
  unfold mL_33 at h
  refine zblq Z rfl [(.aload 1, 1), (.aload 0, 1), (.iload 3, 1), (.iconst 1, 1), (.iadd, 1)] (S' := (1285, [(0, .inr (.inr (some (2200, 0)))), (1, .inr (.inr (some (11, 0)))), (2, .inr (.inr (some (12, 0)))), (3, .inl x3)], [.inl (x3 + (1 : Int32)), .inr (.inr (some (2200, 0))), .inr (.inr (some (11, 0)))], _)) (b := true) (by decide +kernel) rfl rfl ?_
  obtain ⟨hg227, h⟩ := zgd_inv h
  refine c_sld Z hX hg227 (by decide +kernel) ?_
  obtain ⟨r228, MC228, hc228, h⟩ := zbd_inv h
  refine lw_callC hW Z (as := [.inl (xs (nx (x3 + (1 : Int32))))]) (st := []) (m11_days_met (zGC_ok hW) rfl hc228) cwL_156 m11_days_in m11_days_se rfl ⟨by exact Nat.le_of_ble_eq_true rfl, by exact Nat.le_of_ble_eq_true rfl⟩ rfl (by decide +kernel) hnk ?_
  refine zblq Z rfl [(.aload 2, 1), (.aload 0, 1), (.iload 3, 1), (.iconst 1, 1), (.iadd, 1)] (S' := (1294, [(0, .inr (.inr (some (2200, 0)))), (1, .inr (.inr (some (11, 0)))), (2, .inr (.inr (some (12, 0)))), (3, .inl x3)], [.inl (x3 + (1 : Int32)), .inr (.inr (some (2200, 0))), .inr (.inr (some (12, 0))), .inl r228], _)) (b := true) (by decide +kernel) rfl rfl ?_
  obtain ⟨hg229, h⟩ := zgd_inv h
  refine c_sld Z hX hg229 (by decide +kernel) ?_
  obtain ⟨r230, MR230, hc230, h⟩ := zbd_inv h
  refine lw_callR hW Z (as := [.inl (xs (nx (x3 + (1 : Int32))))]) (st := [.inl r228]) (m12_days_met (zGR_ok hW) rfl hc230) cwL_159 m12_days_in m12_days_se rfl ⟨by exact Nat.le_of_ble_eq_true rfl, by exact Nat.le_of_ble_eq_true rfl⟩ rfl (by decide +kernel) hnk ?_
  refine zic_eq Z (off := 371) (tgt := 1669) (by decide +kernel) (by decide) (fun hb231 => ?_) (fun hb231 => ?_)
  · replace h := zite_t h hb231
    cases h
    exact K
  · replace h := zite_f h hb231
    cases h
def mL_34 (L : Nat) (xs : Nat → Int32) (x3 : Int32) (MC : cM) (MR : rM) : Option (cM × rM) := zgd (zin (x3 + (1 : Int32)) L) (zgd (zin (x3 + (2 : Int32)) L) (zgd (zin (x3 + (3 : Int32)) L) ((if (xs (nx (x3 + (3 : Int32)))) = 0 then zbd (m11_way (xs (nx (x3 + (1 : Int32)))) (xs (nx (x3 + (2 : Int32)))) (0 : Int32) MC) (fun r236 MC236 => zgd (zin (x3 + (1 : Int32)) L) (zgd (zin (x3 + (2 : Int32)) L) (zgd (zin (x3 + (3 : Int32)) L) ((if (xs (nx (x3 + (3 : Int32)))) = 0 then zbd (m12_way (xs (nx (x3 + (1 : Int32)))) (xs (nx (x3 + (2 : Int32)))) (0 : Int32) MR) (fun r241 MR241 => (if r236 = r241 then some (MC236, MR241) else none)) else zbd (m12_way (xs (nx (x3 + (1 : Int32)))) (xs (nx (x3 + (2 : Int32)))) (1 : Int32) MR) (fun r243 MR243 => (if r236 = r243 then some (MC236, MR243) else none))))))) else zbd (m11_way (xs (nx (x3 + (1 : Int32)))) (xs (nx (x3 + (2 : Int32)))) (1 : Int32) MC) (fun r245 MC245 => zgd (zin (x3 + (1 : Int32)) L) (zgd (zin (x3 + (2 : Int32)) L) (zgd (zin (x3 + (3 : Int32)) L) ((if (xs (nx (x3 + (3 : Int32)))) = 0 then zbd (m12_way (xs (nx (x3 + (1 : Int32)))) (xs (nx (x3 + (2 : Int32)))) (0 : Int32) MR) (fun r250 MR250 => (if r245 = r250 then some (MC245, MR250) else none)) else zbd (m12_way (xs (nx (x3 + (1 : Int32)))) (xs (nx (x3 + (2 : Int32)))) (1 : Int32) MR) (fun r252 MR252 => (if r245 = r252 then some (MC245, MR252) else none)))))))))))
set_option maxHeartbeats 4000000 in
theorem mL_34_ok {p : Program} {l : Launch} {e : Env} {s : State} {m : MethodId} {args : Array Value} {below : List Frame} {meth : Method} {c : Code} {Q : State → Prop} {D : va_G} {ad : zR → Nat} {ca : Nat → ClassId} {A : Nat → Prop} {base n k : Nat} {L : Nat} {xs : Nat → Int32} {x3 : Int32} {MC MC' : cM} {MR MR' : rM} (hW : zWh zUA base ad A) (Z : zOK (zCm p l e room_1 s m args below meth c Q code 4 R_law tbL (zGL D ad ca A))) (hX : va_X (ad (2200, 0)) L xs s s.heap ∧ ad (2200, 0) < s.heap.size ∧ ¬ A (ad (2200, 0))) (hnk : n ≤ room_1.cells ∧ k ≤ room_1.slots) (h : mL_34 L xs x3 MC MR = some (MC', MR')) (K : zGo (zCm p l e room_1 s m args below meth c Q code 4 R_law tbL (zGL D ad ca A)) n k (1669, [(0, .inr (.inr (some (2200, 0)))), (1, .inr (.inr (some (11, 0)))), (2, .inr (.inr (some (12, 0)))), (3, .inl x3)], [], zmix MC' MR')) : zGo (zCm p l e room_1 s m args below meth c Q code 4 R_law tbL (zGL D ad ca A)) n k (1303, [(0, .inr (.inr (some (2200, 0)))), (1, .inr (.inr (some (11, 0)))), (2, .inr (.inr (some (12, 0)))), (3, .inl x3)], [], zmix MC MR) := by
  unfold mL_34 at h
  refine zblq Z rfl [(.aload 1, 1), (.aload 0, 1), (.iload 3, 1), (.iconst 1, 1), (.iadd, 1)] (S' := (1308, [(0, .inr (.inr (some (2200, 0)))), (1, .inr (.inr (some (11, 0)))), (2, .inr (.inr (some (12, 0)))), (3, .inl x3)], [.inl (x3 + (1 : Int32)), .inr (.inr (some (2200, 0))), .inr (.inr (some (11, 0)))], _)) (b := true) (by decide +kernel) rfl rfl ?_
  obtain ⟨hg232, h⟩ := zgd_inv h
  refine c_sld Z hX hg232 (by decide +kernel) ?_
  refine zblq Z rfl [(.aload 0, 1), (.iload 3, 1), (.iconst 2, 1), (.iadd, 1)] (S' := (1313, [(0, .inr (.inr (some (2200, 0)))), (1, .inr (.inr (some (11, 0)))), (2, .inr (.inr (some (12, 0)))), (3, .inl x3)], [.inl (x3 + (2 : Int32)), .inr (.inr (some (2200, 0))), .inl (xs (nx (x3 + (1 : Int32)))), .inr (.inr (some (11, 0)))], _)) (b := true) (by decide +kernel) rfl rfl ?_
  obtain ⟨hg233, h⟩ := zgd_inv h
  refine c_sld Z hX hg233 (by decide +kernel) ?_
  refine zblq Z rfl [(.aload 0, 1), (.iload 3, 1), (.iconst 3, 1), (.iadd, 1)] (S' := (1318, [(0, .inr (.inr (some (2200, 0)))), (1, .inr (.inr (some (11, 0)))), (2, .inr (.inr (some (12, 0)))), (3, .inl x3)], [.inl (x3 + (3 : Int32)), .inr (.inr (some (2200, 0))), .inl (xs (nx (x3 + (2 : Int32)))), .inl (xs (nx (x3 + (1 : Int32)))), .inr (.inr (some (11, 0)))], _)) (b := true) (by decide +kernel) rfl rfl ?_
  obtain ⟨hg234, h⟩ := zgd_inv h
  refine c_sld Z hX hg234 (by decide +kernel) ?_
  refine zif_eq Z (off := 7) (tgt := 1326) (by decide +kernel) (by decide) (fun hb235 => ?_) (fun hb235 => ?_)
  · replace h := zite_t h hb235
    refine zblq Z rfl [(.iconst 0, 1)] (S' := (1327, [(0, .inr (.inr (some (2200, 0)))), (1, .inr (.inr (some (11, 0)))), (2, .inr (.inr (some (12, 0)))), (3, .inl x3)], [.inl (0 : Int32), .inl (xs (nx (x3 + (2 : Int32)))), .inl (xs (nx (x3 + (1 : Int32)))), .inr (.inr (some (11, 0)))], _)) (b := true) (by decide +kernel) rfl rfl ?_
    obtain ⟨r236, MC236, hc236, h⟩ := zbd_inv h
    refine lw_callC hW Z (as := [.inl (xs (nx (x3 + (1 : Int32)))), .inl (xs (nx (x3 + (2 : Int32)))), .inl (0 : Int32)]) (st := []) (m11_way_met (zGC_ok hW) rfl hc236) cwL_160 m11_way_in m11_way_se rfl ⟨by exact Nat.le_of_ble_eq_true rfl, by exact Nat.le_of_ble_eq_true rfl⟩ rfl (by decide +kernel) hnk ?_
    refine zblq Z rfl [(.aload 2, 1), (.aload 0, 1), (.iload 3, 1), (.iconst 1, 1), (.iadd, 1)] (S' := (1335, [(0, .inr (.inr (some (2200, 0)))), (1, .inr (.inr (some (11, 0)))), (2, .inr (.inr (some (12, 0)))), (3, .inl x3)], [.inl (x3 + (1 : Int32)), .inr (.inr (some (2200, 0))), .inr (.inr (some (12, 0))), .inl r236], _)) (b := true) (by decide +kernel) rfl rfl ?_
    obtain ⟨hg237, h⟩ := zgd_inv h
    refine c_sld Z hX hg237 (by decide +kernel) ?_
    refine zblq Z rfl [(.aload 0, 1), (.iload 3, 1), (.iconst 2, 1), (.iadd, 1)] (S' := (1340, [(0, .inr (.inr (some (2200, 0)))), (1, .inr (.inr (some (11, 0)))), (2, .inr (.inr (some (12, 0)))), (3, .inl x3)], [.inl (x3 + (2 : Int32)), .inr (.inr (some (2200, 0))), .inl (xs (nx (x3 + (1 : Int32)))), .inr (.inr (some (12, 0))), .inl r236], _)) (b := true) (by decide +kernel) rfl rfl ?_
    obtain ⟨hg238, h⟩ := zgd_inv h
    refine c_sld Z hX hg238 (by decide +kernel) ?_
    refine zblq Z rfl [(.aload 0, 1), (.iload 3, 1), (.iconst 3, 1), (.iadd, 1)] (S' := (1345, [(0, .inr (.inr (some (2200, 0)))), (1, .inr (.inr (some (11, 0)))), (2, .inr (.inr (some (12, 0)))), (3, .inl x3)], [.inl (x3 + (3 : Int32)), .inr (.inr (some (2200, 0))), .inl (xs (nx (x3 + (2 : Int32)))), .inl (xs (nx (x3 + (1 : Int32)))), .inr (.inr (some (12, 0))), .inl r236], _)) (b := true) (by decide +kernel) rfl rfl ?_
    obtain ⟨hg239, h⟩ := zgd_inv h
    refine c_sld Z hX hg239 (by decide +kernel) ?_
    refine zif_eq Z (off := 7) (tgt := 1353) (by decide +kernel) (by decide) (fun hb240 => ?_) (fun hb240 => ?_)
    · replace h := zite_t h hb240
      refine zblq Z rfl [(.iconst 0, 1)] (S' := (1354, [(0, .inr (.inr (some (2200, 0)))), (1, .inr (.inr (some (11, 0)))), (2, .inr (.inr (some (12, 0)))), (3, .inl x3)], [.inl (0 : Int32), .inl (xs (nx (x3 + (2 : Int32)))), .inl (xs (nx (x3 + (1 : Int32)))), .inr (.inr (some (12, 0))), .inl r236], _)) (b := true) (by decide +kernel) rfl rfl ?_
      obtain ⟨r241, MR241, hc241, h⟩ := zbd_inv h
      refine lw_callR hW Z (as := [.inl (xs (nx (x3 + (1 : Int32)))), .inl (xs (nx (x3 + (2 : Int32)))), .inl (0 : Int32)]) (st := [.inl r236]) (m12_way_met (zGR_ok hW) rfl hc241) cwL_163 m12_way_in m12_way_se rfl ⟨by exact Nat.le_of_ble_eq_true rfl, by exact Nat.le_of_ble_eq_true rfl⟩ rfl (by decide +kernel) hnk ?_
      refine zic_eq Z (off := 312) (tgt := 1669) (by decide +kernel) (by decide) (fun hb242 => ?_) (fun hb242 => ?_)
      · replace h := zite_t h hb242
        cases h
        exact K
      · replace h := zite_f h hb242
        cases h
    · replace h := zite_f h hb240
      refine zblq Z rfl [(.iconst 1, 1), (.ldc 1354, 3)] (S' := (1354, [(0, .inr (.inr (some (2200, 0)))), (1, .inr (.inr (some (11, 0)))), (2, .inr (.inr (some (12, 0)))), (3, .inl x3)], [.inl (1 : Int32), .inl (xs (nx (x3 + (2 : Int32)))), .inl (xs (nx (x3 + (1 : Int32)))), .inr (.inr (some (12, 0))), .inl r236], _)) (b := true) (by decide +kernel) rfl rfl ?_
      obtain ⟨r243, MR243, hc243, h⟩ := zbd_inv h
      refine lw_callR hW Z (as := [.inl (xs (nx (x3 + (1 : Int32)))), .inl (xs (nx (x3 + (2 : Int32)))), .inl (1 : Int32)]) (st := [.inl r236]) (m12_way_met (zGR_ok hW) rfl hc243) cwL_163 m12_way_in m12_way_se rfl ⟨by exact Nat.le_of_ble_eq_true rfl, by exact Nat.le_of_ble_eq_true rfl⟩ rfl (by decide +kernel) hnk ?_
      refine zic_eq Z (off := 312) (tgt := 1669) (by decide +kernel) (by decide) (fun hb244 => ?_) (fun hb244 => ?_)
      · replace h := zite_t h hb244
        cases h
        exact K
      · replace h := zite_f h hb244
        cases h
  · replace h := zite_f h hb235
    refine zblq Z rfl [(.iconst 1, 1), (.ldc 1327, 3)] (S' := (1327, [(0, .inr (.inr (some (2200, 0)))), (1, .inr (.inr (some (11, 0)))), (2, .inr (.inr (some (12, 0)))), (3, .inl x3)], [.inl (1 : Int32), .inl (xs (nx (x3 + (2 : Int32)))), .inl (xs (nx (x3 + (1 : Int32)))), .inr (.inr (some (11, 0)))], _)) (b := true) (by decide +kernel) rfl rfl ?_
    obtain ⟨r245, MC245, hc245, h⟩ := zbd_inv h
    refine lw_callC hW Z (as := [.inl (xs (nx (x3 + (1 : Int32)))), .inl (xs (nx (x3 + (2 : Int32)))), .inl (1 : Int32)]) (st := []) (m11_way_met (zGC_ok hW) rfl hc245) cwL_160 m11_way_in m11_way_se rfl ⟨by exact Nat.le_of_ble_eq_true rfl, by exact Nat.le_of_ble_eq_true rfl⟩ rfl (by decide +kernel) hnk ?_
    refine zblq Z rfl [(.aload 2, 1), (.aload 0, 1), (.iload 3, 1), (.iconst 1, 1), (.iadd, 1)] (S' := (1335, [(0, .inr (.inr (some (2200, 0)))), (1, .inr (.inr (some (11, 0)))), (2, .inr (.inr (some (12, 0)))), (3, .inl x3)], [.inl (x3 + (1 : Int32)), .inr (.inr (some (2200, 0))), .inr (.inr (some (12, 0))), .inl r245], _)) (b := true) (by decide +kernel) rfl rfl ?_
    obtain ⟨hg246, h⟩ := zgd_inv h
    refine c_sld Z hX hg246 (by decide +kernel) ?_
    refine zblq Z rfl [(.aload 0, 1), (.iload 3, 1), (.iconst 2, 1), (.iadd, 1)] (S' := (1340, [(0, .inr (.inr (some (2200, 0)))), (1, .inr (.inr (some (11, 0)))), (2, .inr (.inr (some (12, 0)))), (3, .inl x3)], [.inl (x3 + (2 : Int32)), .inr (.inr (some (2200, 0))), .inl (xs (nx (x3 + (1 : Int32)))), .inr (.inr (some (12, 0))), .inl r245], _)) (b := true) (by decide +kernel) rfl rfl ?_
    obtain ⟨hg247, h⟩ := zgd_inv h
    refine c_sld Z hX hg247 (by decide +kernel) ?_
    refine zblq Z rfl [(.aload 0, 1), (.iload 3, 1), (.iconst 3, 1), (.iadd, 1)] (S' := (1345, [(0, .inr (.inr (some (2200, 0)))), (1, .inr (.inr (some (11, 0)))), (2, .inr (.inr (some (12, 0)))), (3, .inl x3)], [.inl (x3 + (3 : Int32)), .inr (.inr (some (2200, 0))), .inl (xs (nx (x3 + (2 : Int32)))), .inl (xs (nx (x3 + (1 : Int32)))), .inr (.inr (some (12, 0))), .inl r245], _)) (b := true) (by decide +kernel) rfl rfl ?_
    obtain ⟨hg248, h⟩ := zgd_inv h
    refine c_sld Z hX hg248 (by decide +kernel) ?_
    refine zif_eq Z (off := 7) (tgt := 1353) (by decide +kernel) (by decide) (fun hb249 => ?_) (fun hb249 => ?_)
    · replace h := zite_t h hb249
      refine zblq Z rfl [(.iconst 0, 1)] (S' := (1354, [(0, .inr (.inr (some (2200, 0)))), (1, .inr (.inr (some (11, 0)))), (2, .inr (.inr (some (12, 0)))), (3, .inl x3)], [.inl (0 : Int32), .inl (xs (nx (x3 + (2 : Int32)))), .inl (xs (nx (x3 + (1 : Int32)))), .inr (.inr (some (12, 0))), .inl r245], _)) (b := true) (by decide +kernel) rfl rfl ?_
      obtain ⟨r250, MR250, hc250, h⟩ := zbd_inv h
      refine lw_callR hW Z (as := [.inl (xs (nx (x3 + (1 : Int32)))), .inl (xs (nx (x3 + (2 : Int32)))), .inl (0 : Int32)]) (st := [.inl r245]) (m12_way_met (zGR_ok hW) rfl hc250) cwL_163 m12_way_in m12_way_se rfl ⟨by exact Nat.le_of_ble_eq_true rfl, by exact Nat.le_of_ble_eq_true rfl⟩ rfl (by decide +kernel) hnk ?_
      refine zic_eq Z (off := 312) (tgt := 1669) (by decide +kernel) (by decide) (fun hb251 => ?_) (fun hb251 => ?_)
      · replace h := zite_t h hb251
        cases h
        exact K
      · replace h := zite_f h hb251
        cases h
    · replace h := zite_f h hb249
      refine zblq Z rfl [(.iconst 1, 1), (.ldc 1354, 3)] (S' := (1354, [(0, .inr (.inr (some (2200, 0)))), (1, .inr (.inr (some (11, 0)))), (2, .inr (.inr (some (12, 0)))), (3, .inl x3)], [.inl (1 : Int32), .inl (xs (nx (x3 + (2 : Int32)))), .inl (xs (nx (x3 + (1 : Int32)))), .inr (.inr (some (12, 0))), .inl r245], _)) (b := true) (by decide +kernel) rfl rfl ?_
      obtain ⟨r252, MR252, hc252, h⟩ := zbd_inv h
      refine lw_callR hW Z (as := [.inl (xs (nx (x3 + (1 : Int32)))), .inl (xs (nx (x3 + (2 : Int32)))), .inl (1 : Int32)]) (st := [.inl r245]) (m12_way_met (zGR_ok hW) rfl hc252) cwL_163 m12_way_in m12_way_se rfl ⟨by exact Nat.le_of_ble_eq_true rfl, by exact Nat.le_of_ble_eq_true rfl⟩ rfl (by decide +kernel) hnk ?_
      refine zic_eq Z (off := 312) (tgt := 1669) (by decide +kernel) (by decide) (fun hb253 => ?_) (fun hb253 => ?_)
      · replace h := zite_t h hb253
        cases h
        exact K
      · replace h := zite_f h hb253
        cases h
def mL_35 (L : Nat) (xs : Nat → Int32) (x3 : Int32) (MC : cM) (MR : rM) : Option (cM × rM) := zgd (zin (x3 + (1 : Int32)) L) (zgd (zin (x3 + (2 : Int32)) L) (zbd (m11_ear (xs (nx (x3 + (1 : Int32)))) (xs (nx (x3 + (2 : Int32)))) MC) (fun r256 MC256 => zgd (zin (x3 + (1 : Int32)) L) (zgd (zin (x3 + (2 : Int32)) L) (zbd (m12_ear (xs (nx (x3 + (1 : Int32)))) (xs (nx (x3 + (2 : Int32)))) MR) (fun r259 MR259 => (if r256 = r259 then some (MC256, MR259) else none)))))))
set_option maxHeartbeats 4000000 in
theorem mL_35_ok {p : Program} {l : Launch} {e : Env} {s : State} {m : MethodId} {args : Array Value} {below : List Frame} {meth : Method} {c : Code} {Q : State → Prop} {D : va_G} {ad : zR → Nat} {ca : Nat → ClassId} {A : Nat → Prop} {base n k : Nat} {L : Nat} {xs : Nat → Int32} {x3 : Int32} {MC MC' : cM} {MR MR' : rM} (hW : zWh zUA base ad A) (Z : zOK (zCm p l e room_1 s m args below meth c Q code 4 R_law tbL (zGL D ad ca A))) (hX : va_X (ad (2200, 0)) L xs s s.heap ∧ ad (2200, 0) < s.heap.size ∧ ¬ A (ad (2200, 0))) (hnk : n ≤ room_1.cells ∧ k ≤ room_1.slots) (h : mL_35 L xs x3 MC MR = some (MC', MR')) (K : zGo (zCm p l e room_1 s m args below meth c Q code 4 R_law tbL (zGL D ad ca A)) n k (1669, [(0, .inr (.inr (some (2200, 0)))), (1, .inr (.inr (some (11, 0)))), (2, .inr (.inr (some (12, 0)))), (3, .inl x3)], [], zmix MC' MR')) : zGo (zCm p l e room_1 s m args below meth c Q code 4 R_law tbL (zGL D ad ca A)) n k (1362, [(0, .inr (.inr (some (2200, 0)))), (1, .inr (.inr (some (11, 0)))), (2, .inr (.inr (some (12, 0)))), (3, .inl x3)], [], zmix MC MR) := by
  unfold mL_35 at h
  refine zblq Z rfl [(.aload 1, 1), (.aload 0, 1), (.iload 3, 1), (.iconst 1, 1), (.iadd, 1)] (S' := (1367, [(0, .inr (.inr (some (2200, 0)))), (1, .inr (.inr (some (11, 0)))), (2, .inr (.inr (some (12, 0)))), (3, .inl x3)], [.inl (x3 + (1 : Int32)), .inr (.inr (some (2200, 0))), .inr (.inr (some (11, 0)))], _)) (b := true) (by decide +kernel) rfl rfl ?_
  obtain ⟨hg254, h⟩ := zgd_inv h
  refine c_sld Z hX hg254 (by decide +kernel) ?_
  refine zblq Z rfl [(.aload 0, 1), (.iload 3, 1), (.iconst 2, 1), (.iadd, 1)] (S' := (1372, [(0, .inr (.inr (some (2200, 0)))), (1, .inr (.inr (some (11, 0)))), (2, .inr (.inr (some (12, 0)))), (3, .inl x3)], [.inl (x3 + (2 : Int32)), .inr (.inr (some (2200, 0))), .inl (xs (nx (x3 + (1 : Int32)))), .inr (.inr (some (11, 0)))], _)) (b := true) (by decide +kernel) rfl rfl ?_
  obtain ⟨hg255, h⟩ := zgd_inv h
  refine c_sld Z hX hg255 (by decide +kernel) ?_
  obtain ⟨r256, MC256, hc256, h⟩ := zbd_inv h
  refine lw_callC hW Z (as := [.inl (xs (nx (x3 + (1 : Int32)))), .inl (xs (nx (x3 + (2 : Int32))))]) (st := []) (m11_ear_met (zGC_ok hW) rfl hc256) cwL_164 m11_ear_in m11_ear_se rfl ⟨by exact Nat.le_of_ble_eq_true rfl, by exact Nat.le_of_ble_eq_true rfl⟩ rfl (by decide +kernel) hnk ?_
  refine zblq Z rfl [(.aload 2, 1), (.aload 0, 1), (.iload 3, 1), (.iconst 1, 1), (.iadd, 1)] (S' := (1381, [(0, .inr (.inr (some (2200, 0)))), (1, .inr (.inr (some (11, 0)))), (2, .inr (.inr (some (12, 0)))), (3, .inl x3)], [.inl (x3 + (1 : Int32)), .inr (.inr (some (2200, 0))), .inr (.inr (some (12, 0))), .inl r256], _)) (b := true) (by decide +kernel) rfl rfl ?_
  obtain ⟨hg257, h⟩ := zgd_inv h
  refine c_sld Z hX hg257 (by decide +kernel) ?_
  refine zblq Z rfl [(.aload 0, 1), (.iload 3, 1), (.iconst 2, 1), (.iadd, 1)] (S' := (1386, [(0, .inr (.inr (some (2200, 0)))), (1, .inr (.inr (some (11, 0)))), (2, .inr (.inr (some (12, 0)))), (3, .inl x3)], [.inl (x3 + (2 : Int32)), .inr (.inr (some (2200, 0))), .inl (xs (nx (x3 + (1 : Int32)))), .inr (.inr (some (12, 0))), .inl r256], _)) (b := true) (by decide +kernel) rfl rfl ?_
  obtain ⟨hg258, h⟩ := zgd_inv h
  refine c_sld Z hX hg258 (by decide +kernel) ?_
  obtain ⟨r259, MR259, hc259, h⟩ := zbd_inv h
  refine lw_callR hW Z (as := [.inl (xs (nx (x3 + (1 : Int32)))), .inl (xs (nx (x3 + (2 : Int32))))]) (st := [.inl r256]) (m12_ear_met (zGR_ok hW) rfl hc259) cwL_167 m12_ear_in m12_ear_se rfl ⟨by exact Nat.le_of_ble_eq_true rfl, by exact Nat.le_of_ble_eq_true rfl⟩ rfl (by decide +kernel) hnk ?_
  refine zic_eq Z (off := 279) (tgt := 1669) (by decide +kernel) (by decide) (fun hb260 => ?_) (fun hb260 => ?_)
  · replace h := zite_t h hb260
    cases h
    exact K
  · replace h := zite_f h hb260
    cases h
def mL_36 (L : Nat) (xs : Nat → Int32) (x3 : Int32) (MC : cM) (MR : rM) : Option (cM × rM) := zgd (zin (x3 + (1 : Int32)) L) (zgd (zin (x3 + (2 : Int32)) L) (zgd (zin (x3 + (3 : Int32)) L) (zbd (m11_log (xs (nx (x3 + (1 : Int32)))) (xs (nx (x3 + (2 : Int32)))) (xs (nx (x3 + (3 : Int32)))) MC) (fun r264 MC264 => zgd (zin (x3 + (1 : Int32)) L) (zgd (zin (x3 + (2 : Int32)) L) (zgd (zin (x3 + (3 : Int32)) L) (zbd (m12_log (xs (nx (x3 + (1 : Int32)))) (xs (nx (x3 + (2 : Int32)))) (xs (nx (x3 + (3 : Int32)))) MR) (fun r268 MR268 => (if r264 = r268 then some (MC264, MR268) else none)))))))))
set_option maxHeartbeats 4000000 in
theorem mL_36_ok {p : Program} {l : Launch} {e : Env} {s : State} {m : MethodId} {args : Array Value} {below : List Frame} {meth : Method} {c : Code} {Q : State → Prop} {D : va_G} {ad : zR → Nat} {ca : Nat → ClassId} {A : Nat → Prop} {base n k : Nat} {L : Nat} {xs : Nat → Int32} {x3 : Int32} {MC MC' : cM} {MR MR' : rM} (hW : zWh zUA base ad A) (Z : zOK (zCm p l e room_1 s m args below meth c Q code 4 R_law tbL (zGL D ad ca A))) (hX : va_X (ad (2200, 0)) L xs s s.heap ∧ ad (2200, 0) < s.heap.size ∧ ¬ A (ad (2200, 0))) (hnk : n ≤ room_1.cells ∧ k ≤ room_1.slots) (h : mL_36 L xs x3 MC MR = some (MC', MR')) (K : zGo (zCm p l e room_1 s m args below meth c Q code 4 R_law tbL (zGL D ad ca A)) n k (1669, [(0, .inr (.inr (some (2200, 0)))), (1, .inr (.inr (some (11, 0)))), (2, .inr (.inr (some (12, 0)))), (3, .inl x3)], [], zmix MC' MR')) : zGo (zCm p l e room_1 s m args below meth c Q code 4 R_law tbL (zGL D ad ca A)) n k (1395, [(0, .inr (.inr (some (2200, 0)))), (1, .inr (.inr (some (11, 0)))), (2, .inr (.inr (some (12, 0)))), (3, .inl x3)], [], zmix MC MR) := by
  unfold mL_36 at h
  refine zblq Z rfl [(.aload 1, 1), (.aload 0, 1), (.iload 3, 1), (.iconst 1, 1), (.iadd, 1)] (S' := (1400, [(0, .inr (.inr (some (2200, 0)))), (1, .inr (.inr (some (11, 0)))), (2, .inr (.inr (some (12, 0)))), (3, .inl x3)], [.inl (x3 + (1 : Int32)), .inr (.inr (some (2200, 0))), .inr (.inr (some (11, 0)))], _)) (b := true) (by decide +kernel) rfl rfl ?_
  obtain ⟨hg261, h⟩ := zgd_inv h
  refine c_sld Z hX hg261 (by decide +kernel) ?_
  refine zblq Z rfl [(.aload 0, 1), (.iload 3, 1), (.iconst 2, 1), (.iadd, 1)] (S' := (1405, [(0, .inr (.inr (some (2200, 0)))), (1, .inr (.inr (some (11, 0)))), (2, .inr (.inr (some (12, 0)))), (3, .inl x3)], [.inl (x3 + (2 : Int32)), .inr (.inr (some (2200, 0))), .inl (xs (nx (x3 + (1 : Int32)))), .inr (.inr (some (11, 0)))], _)) (b := true) (by decide +kernel) rfl rfl ?_
  obtain ⟨hg262, h⟩ := zgd_inv h
  refine c_sld Z hX hg262 (by decide +kernel) ?_
  refine zblq Z rfl [(.aload 0, 1), (.iload 3, 1), (.iconst 3, 1), (.iadd, 1)] (S' := (1410, [(0, .inr (.inr (some (2200, 0)))), (1, .inr (.inr (some (11, 0)))), (2, .inr (.inr (some (12, 0)))), (3, .inl x3)], [.inl (x3 + (3 : Int32)), .inr (.inr (some (2200, 0))), .inl (xs (nx (x3 + (2 : Int32)))), .inl (xs (nx (x3 + (1 : Int32)))), .inr (.inr (some (11, 0)))], _)) (b := true) (by decide +kernel) rfl rfl ?_
  obtain ⟨hg263, h⟩ := zgd_inv h
  refine c_sld Z hX hg263 (by decide +kernel) ?_
  obtain ⟨r264, MC264, hc264, h⟩ := zbd_inv h
  refine lw_callC hW Z (as := [.inl (xs (nx (x3 + (1 : Int32)))), .inl (xs (nx (x3 + (2 : Int32)))), .inl (xs (nx (x3 + (3 : Int32))))]) (st := []) (m11_log_met (zGC_ok hW) rfl hc264) cwL_168 m11_log_in m11_log_se rfl ⟨by exact Nat.le_of_ble_eq_true rfl, by exact Nat.le_of_ble_eq_true rfl⟩ rfl (by decide +kernel) hnk ?_
  refine zblq Z rfl [(.aload 2, 1), (.aload 0, 1), (.iload 3, 1), (.iconst 1, 1), (.iadd, 1)] (S' := (1419, [(0, .inr (.inr (some (2200, 0)))), (1, .inr (.inr (some (11, 0)))), (2, .inr (.inr (some (12, 0)))), (3, .inl x3)], [.inl (x3 + (1 : Int32)), .inr (.inr (some (2200, 0))), .inr (.inr (some (12, 0))), .inl r264], _)) (b := true) (by decide +kernel) rfl rfl ?_
  obtain ⟨hg265, h⟩ := zgd_inv h
  refine c_sld Z hX hg265 (by decide +kernel) ?_
  refine zblq Z rfl [(.aload 0, 1), (.iload 3, 1), (.iconst 2, 1), (.iadd, 1)] (S' := (1424, [(0, .inr (.inr (some (2200, 0)))), (1, .inr (.inr (some (11, 0)))), (2, .inr (.inr (some (12, 0)))), (3, .inl x3)], [.inl (x3 + (2 : Int32)), .inr (.inr (some (2200, 0))), .inl (xs (nx (x3 + (1 : Int32)))), .inr (.inr (some (12, 0))), .inl r264], _)) (b := true) (by decide +kernel) rfl rfl ?_
  obtain ⟨hg266, h⟩ := zgd_inv h
  refine c_sld Z hX hg266 (by decide +kernel) ?_
  refine zblq Z rfl [(.aload 0, 1), (.iload 3, 1), (.iconst 3, 1), (.iadd, 1)] (S' := (1429, [(0, .inr (.inr (some (2200, 0)))), (1, .inr (.inr (some (11, 0)))), (2, .inr (.inr (some (12, 0)))), (3, .inl x3)], [.inl (x3 + (3 : Int32)), .inr (.inr (some (2200, 0))), .inl (xs (nx (x3 + (2 : Int32)))), .inl (xs (nx (x3 + (1 : Int32)))), .inr (.inr (some (12, 0))), .inl r264], _)) (b := true) (by decide +kernel) rfl rfl ?_
  obtain ⟨hg267, h⟩ := zgd_inv h
  refine c_sld Z hX hg267 (by decide +kernel) ?_
  obtain ⟨r268, MR268, hc268, h⟩ := zbd_inv h
  refine lw_callR hW Z (as := [.inl (xs (nx (x3 + (1 : Int32)))), .inl (xs (nx (x3 + (2 : Int32)))), .inl (xs (nx (x3 + (3 : Int32))))]) (st := [.inl r264]) (m12_log_met (zGR_ok hW) rfl hc268) cwL_171 m12_log_in m12_log_se rfl ⟨by exact Nat.le_of_ble_eq_true rfl, by exact Nat.le_of_ble_eq_true rfl⟩ rfl (by decide +kernel) hnk ?_
  refine zic_eq Z (off := 236) (tgt := 1669) (by decide +kernel) (by decide) (fun hb269 => ?_) (fun hb269 => ?_)
  · replace h := zite_t h hb269
    cases h
    exact K
  · replace h := zite_f h hb269
    cases h
def mL_37 (L : Nat) (xs : Nat → Int32) (x3 : Int32) (MC : cM) (MR : rM) : Option (cM × rM) := zgd (zin (x3 + (1 : Int32)) L) (zbd (m11_liars (xs (nx (x3 + (1 : Int32)))) MC) (fun r271 MC271 => zgd (zin (x3 + (1 : Int32)) L) (zbd (m12_liars (xs (nx (x3 + (1 : Int32)))) MR) (fun r273 MR273 => (if r271 = r273 then some (MC271, MR273) else none)))))
set_option maxHeartbeats 4000000 in
theorem mL_37_ok {p : Program} {l : Launch} {e : Env} {s : State} {m : MethodId} {args : Array Value} {below : List Frame} {meth : Method} {c : Code} {Q : State → Prop} {D : va_G} {ad : zR → Nat} {ca : Nat → ClassId} {A : Nat → Prop} {base n k : Nat} {L : Nat} {xs : Nat → Int32} {x3 : Int32} {MC MC' : cM} {MR MR' : rM} (hW : zWh zUA base ad A) (Z : zOK (zCm p l e room_1 s m args below meth c Q code 4 R_law tbL (zGL D ad ca A))) (hX : va_X (ad (2200, 0)) L xs s s.heap ∧ ad (2200, 0) < s.heap.size ∧ ¬ A (ad (2200, 0))) (hnk : n ≤ room_1.cells ∧ k ≤ room_1.slots) (h : mL_37 L xs x3 MC MR = some (MC', MR')) (K : zGo (zCm p l e room_1 s m args below meth c Q code 4 R_law tbL (zGL D ad ca A)) n k (1669, [(0, .inr (.inr (some (2200, 0)))), (1, .inr (.inr (some (11, 0)))), (2, .inr (.inr (some (12, 0)))), (3, .inl x3)], [], zmix MC' MR')) : zGo (zCm p l e room_1 s m args below meth c Q code 4 R_law tbL (zGL D ad ca A)) n k (1438, [(0, .inr (.inr (some (2200, 0)))), (1, .inr (.inr (some (11, 0)))), (2, .inr (.inr (some (12, 0)))), (3, .inl x3)], [], zmix MC MR) := by
  unfold mL_37 at h
  refine zblq Z rfl [(.aload 1, 1), (.aload 0, 1), (.iload 3, 1), (.iconst 1, 1), (.iadd, 1)] (S' := (1443, [(0, .inr (.inr (some (2200, 0)))), (1, .inr (.inr (some (11, 0)))), (2, .inr (.inr (some (12, 0)))), (3, .inl x3)], [.inl (x3 + (1 : Int32)), .inr (.inr (some (2200, 0))), .inr (.inr (some (11, 0)))], _)) (b := true) (by decide +kernel) rfl rfl ?_
  obtain ⟨hg270, h⟩ := zgd_inv h
  refine c_sld Z hX hg270 (by decide +kernel) ?_
  obtain ⟨r271, MC271, hc271, h⟩ := zbd_inv h
  refine lw_callC hW Z (as := [.inl (xs (nx (x3 + (1 : Int32))))]) (st := []) (m11_liars_met (zGC_ok hW) rfl hc271) cwL_172 m11_liars_in m11_liars_se rfl ⟨by exact Nat.le_of_ble_eq_true rfl, by exact Nat.le_of_ble_eq_true rfl⟩ rfl (by decide +kernel) hnk ?_
  refine zblq Z rfl [(.aload 2, 1), (.aload 0, 1), (.iload 3, 1), (.iconst 1, 1), (.iadd, 1)] (S' := (1452, [(0, .inr (.inr (some (2200, 0)))), (1, .inr (.inr (some (11, 0)))), (2, .inr (.inr (some (12, 0)))), (3, .inl x3)], [.inl (x3 + (1 : Int32)), .inr (.inr (some (2200, 0))), .inr (.inr (some (12, 0))), .inl r271], _)) (b := true) (by decide +kernel) rfl rfl ?_
  obtain ⟨hg272, h⟩ := zgd_inv h
  refine c_sld Z hX hg272 (by decide +kernel) ?_
  obtain ⟨r273, MR273, hc273, h⟩ := zbd_inv h
  refine lw_callR hW Z (as := [.inl (xs (nx (x3 + (1 : Int32))))]) (st := [.inl r271]) (m12_liars_met (zGR_ok hW) rfl hc273) cwL_175 m12_liars_in m12_liars_se rfl ⟨by exact Nat.le_of_ble_eq_true rfl, by exact Nat.le_of_ble_eq_true rfl⟩ rfl (by decide +kernel) hnk ?_
  refine zic_eq Z (off := 213) (tgt := 1669) (by decide +kernel) (by decide) (fun hb274 => ?_) (fun hb274 => ?_)
  · replace h := zite_t h hb274
    cases h
    exact K
  · replace h := zite_f h hb274
    cases h
def mL_38 (L : Nat) (xs : Nat → Int32) (x3 : Int32) (MC : cM) (MR : rM) : Option (cM × rM) := zbd (m11_courses MC) (fun r275 MC275 => zbd (m12_courses MR) (fun r276 MR276 => (if r275 = r276 then some (MC275, MR276) else none)))
set_option maxHeartbeats 4000000 in
theorem mL_38_ok {p : Program} {l : Launch} {e : Env} {s : State} {m : MethodId} {args : Array Value} {below : List Frame} {meth : Method} {c : Code} {Q : State → Prop} {D : va_G} {ad : zR → Nat} {ca : Nat → ClassId} {A : Nat → Prop} {base n k : Nat} {L : Nat} {xs : Nat → Int32} {x3 : Int32} {MC MC' : cM} {MR MR' : rM} (hW : zWh zUA base ad A) (Z : zOK (zCm p l e room_1 s m args below meth c Q code 4 R_law tbL (zGL D ad ca A))) (hX : va_X (ad (2200, 0)) L xs s s.heap ∧ ad (2200, 0) < s.heap.size ∧ ¬ A (ad (2200, 0))) (hnk : n ≤ room_1.cells ∧ k ≤ room_1.slots) (h : mL_38 L xs x3 MC MR = some (MC', MR')) (K : zGo (zCm p l e room_1 s m args below meth c Q code 4 R_law tbL (zGL D ad ca A)) n k (1669, [(0, .inr (.inr (some (2200, 0)))), (1, .inr (.inr (some (11, 0)))), (2, .inr (.inr (some (12, 0)))), (3, .inl x3)], [], zmix MC' MR')) : zGo (zCm p l e room_1 s m args below meth c Q code 4 R_law tbL (zGL D ad ca A)) n k (1461, [(0, .inr (.inr (some (2200, 0)))), (1, .inr (.inr (some (11, 0)))), (2, .inr (.inr (some (12, 0)))), (3, .inl x3)], [], zmix MC MR) := by
  unfold mL_38 at h
  refine zblq Z rfl [(.aload 1, 1)] (S' := (1462, [(0, .inr (.inr (some (2200, 0)))), (1, .inr (.inr (some (11, 0)))), (2, .inr (.inr (some (12, 0)))), (3, .inl x3)], [.inr (.inr (some (11, 0)))], _)) (b := true) (by decide +kernel) rfl rfl ?_
  obtain ⟨r275, MC275, hc275, h⟩ := zbd_inv h
  refine lw_callC hW Z (as := []) (st := []) (m11_courses_met (zGC_ok hW) rfl hc275) cwL_176 m11_courses_in m11_courses_se rfl ⟨by exact Nat.le_of_ble_eq_true rfl, by exact Nat.le_of_ble_eq_true rfl⟩ rfl (by decide +kernel) hnk ?_
  refine zblq Z rfl [(.aload 2, 1)] (S' := (1466, [(0, .inr (.inr (some (2200, 0)))), (1, .inr (.inr (some (11, 0)))), (2, .inr (.inr (some (12, 0)))), (3, .inl x3)], [.inr (.inr (some (12, 0))), .inl r275], _)) (b := true) (by decide +kernel) rfl rfl ?_
  obtain ⟨r276, MR276, hc276, h⟩ := zbd_inv h
  refine lw_callR hW Z (as := []) (st := [.inl r275]) (m12_courses_met (zGR_ok hW) rfl hc276) cwL_179 m12_courses_in m12_courses_se rfl ⟨by exact Nat.le_of_ble_eq_true rfl, by exact Nat.le_of_ble_eq_true rfl⟩ rfl (by decide +kernel) hnk ?_
  refine zic_eq Z (off := 200) (tgt := 1669) (by decide +kernel) (by decide) (fun hb277 => ?_) (fun hb277 => ?_)
  · replace h := zite_t h hb277
    cases h
    exact K
  · replace h := zite_f h hb277
    cases h
def mL_39 (L : Nat) (xs : Nat → Int32) (x3 : Int32) (MC : cM) (MR : rM) : Option (cM × rM) := zgd (zin (x3 + (1 : Int32)) L) (zgd (zin (x3 + (2 : Int32)) L) (zbd (m11_course (xs (nx (x3 + (1 : Int32)))) (xs (nx (x3 + (2 : Int32)))) MC) (fun r280 MC280 => zgd (zin (x3 + (1 : Int32)) L) (zgd (zin (x3 + (2 : Int32)) L) (zbd (m12_course (xs (nx (x3 + (1 : Int32)))) (xs (nx (x3 + (2 : Int32)))) MR) (fun r283 MR283 => (if r280 = r283 then some (MC280, MR283) else none)))))))
set_option maxHeartbeats 4000000 in
theorem mL_39_ok {p : Program} {l : Launch} {e : Env} {s : State} {m : MethodId} {args : Array Value} {below : List Frame} {meth : Method} {c : Code} {Q : State → Prop} {D : va_G} {ad : zR → Nat} {ca : Nat → ClassId} {A : Nat → Prop} {base n k : Nat} {L : Nat} {xs : Nat → Int32} {x3 : Int32} {MC MC' : cM} {MR MR' : rM} (hW : zWh zUA base ad A) (Z : zOK (zCm p l e room_1 s m args below meth c Q code 4 R_law tbL (zGL D ad ca A))) (hX : va_X (ad (2200, 0)) L xs s s.heap ∧ ad (2200, 0) < s.heap.size ∧ ¬ A (ad (2200, 0))) (hnk : n ≤ room_1.cells ∧ k ≤ room_1.slots) (h : mL_39 L xs x3 MC MR = some (MC', MR')) (K : zGo (zCm p l e room_1 s m args below meth c Q code 4 R_law tbL (zGL D ad ca A)) n k (1669, [(0, .inr (.inr (some (2200, 0)))), (1, .inr (.inr (some (11, 0)))), (2, .inr (.inr (some (12, 0)))), (3, .inl x3)], [], zmix MC' MR')) : zGo (zCm p l e room_1 s m args below meth c Q code 4 R_law tbL (zGL D ad ca A)) n k (1474, [(0, .inr (.inr (some (2200, 0)))), (1, .inr (.inr (some (11, 0)))), (2, .inr (.inr (some (12, 0)))), (3, .inl x3)], [], zmix MC MR) := by
  unfold mL_39 at h
  refine zblq Z rfl [(.aload 1, 1), (.aload 0, 1), (.iload 3, 1), (.iconst 1, 1), (.iadd, 1)] (S' := (1479, [(0, .inr (.inr (some (2200, 0)))), (1, .inr (.inr (some (11, 0)))), (2, .inr (.inr (some (12, 0)))), (3, .inl x3)], [.inl (x3 + (1 : Int32)), .inr (.inr (some (2200, 0))), .inr (.inr (some (11, 0)))], _)) (b := true) (by decide +kernel) rfl rfl ?_
  obtain ⟨hg278, h⟩ := zgd_inv h
  refine c_sld Z hX hg278 (by decide +kernel) ?_
  refine zblq Z rfl [(.aload 0, 1), (.iload 3, 1), (.iconst 2, 1), (.iadd, 1)] (S' := (1484, [(0, .inr (.inr (some (2200, 0)))), (1, .inr (.inr (some (11, 0)))), (2, .inr (.inr (some (12, 0)))), (3, .inl x3)], [.inl (x3 + (2 : Int32)), .inr (.inr (some (2200, 0))), .inl (xs (nx (x3 + (1 : Int32)))), .inr (.inr (some (11, 0)))], _)) (b := true) (by decide +kernel) rfl rfl ?_
  obtain ⟨hg279, h⟩ := zgd_inv h
  refine c_sld Z hX hg279 (by decide +kernel) ?_
  obtain ⟨r280, MC280, hc280, h⟩ := zbd_inv h
  refine lw_callC hW Z (as := [.inl (xs (nx (x3 + (1 : Int32)))), .inl (xs (nx (x3 + (2 : Int32))))]) (st := []) (m11_course_met (zGC_ok hW) rfl hc280) cwL_180 m11_course_in m11_course_se rfl ⟨by exact Nat.le_of_ble_eq_true rfl, by exact Nat.le_of_ble_eq_true rfl⟩ rfl (by decide +kernel) hnk ?_
  refine zblq Z rfl [(.aload 2, 1), (.aload 0, 1), (.iload 3, 1), (.iconst 1, 1), (.iadd, 1)] (S' := (1493, [(0, .inr (.inr (some (2200, 0)))), (1, .inr (.inr (some (11, 0)))), (2, .inr (.inr (some (12, 0)))), (3, .inl x3)], [.inl (x3 + (1 : Int32)), .inr (.inr (some (2200, 0))), .inr (.inr (some (12, 0))), .inl r280], _)) (b := true) (by decide +kernel) rfl rfl ?_
  obtain ⟨hg281, h⟩ := zgd_inv h
  refine c_sld Z hX hg281 (by decide +kernel) ?_
  refine zblq Z rfl [(.aload 0, 1), (.iload 3, 1), (.iconst 2, 1), (.iadd, 1)] (S' := (1498, [(0, .inr (.inr (some (2200, 0)))), (1, .inr (.inr (some (11, 0)))), (2, .inr (.inr (some (12, 0)))), (3, .inl x3)], [.inl (x3 + (2 : Int32)), .inr (.inr (some (2200, 0))), .inl (xs (nx (x3 + (1 : Int32)))), .inr (.inr (some (12, 0))), .inl r280], _)) (b := true) (by decide +kernel) rfl rfl ?_
  obtain ⟨hg282, h⟩ := zgd_inv h
  refine c_sld Z hX hg282 (by decide +kernel) ?_
  obtain ⟨r283, MR283, hc283, h⟩ := zbd_inv h
  refine lw_callR hW Z (as := [.inl (xs (nx (x3 + (1 : Int32)))), .inl (xs (nx (x3 + (2 : Int32))))]) (st := [.inl r280]) (m12_course_met (zGR_ok hW) rfl hc283) cwL_183 m12_course_in m12_course_se rfl ⟨by exact Nat.le_of_ble_eq_true rfl, by exact Nat.le_of_ble_eq_true rfl⟩ rfl (by decide +kernel) hnk ?_
  refine zic_eq Z (off := 167) (tgt := 1669) (by decide +kernel) (by decide) (fun hb284 => ?_) (fun hb284 => ?_)
  · replace h := zite_t h hb284
    cases h
    exact K
  · replace h := zite_f h hb284
    cases h
def mL_40 (L : Nat) (xs : Nat → Int32) (x3 : Int32) (MC : cM) (MR : rM) : Option (cM × rM) := zgd (zin (x3 + (1 : Int32)) L) (zgd (zin (x3 + (2 : Int32)) L) (zgd (zin (x3 + (3 : Int32)) L) (zgd (zin (x3 + (4 : Int32)) L) (zgd (zin (x3 + (5 : Int32)) L) (zbd (m11_judge (xs (nx (x3 + (1 : Int32)))) (xs (nx (x3 + (2 : Int32)))) (xs (nx (x3 + (3 : Int32)))) (xs (nx (x3 + (4 : Int32)))) (xs (nx (x3 + (5 : Int32)))) MC) (fun r290 MC290 => zgd (zin (x3 + (1 : Int32)) L) (zgd (zin (x3 + (2 : Int32)) L) (zgd (zin (x3 + (3 : Int32)) L) (zgd (zin (x3 + (4 : Int32)) L) (zgd (zin (x3 + (5 : Int32)) L) (zbd (m12_judge (xs (nx (x3 + (1 : Int32)))) (xs (nx (x3 + (2 : Int32)))) (xs (nx (x3 + (3 : Int32)))) (xs (nx (x3 + (4 : Int32)))) (xs (nx (x3 + (5 : Int32)))) MR) (fun r296 MR296 => (if r290 = r296 then some (MC290, MR296) else none)))))))))))))
set_option maxHeartbeats 4000000 in
theorem mL_40_ok {p : Program} {l : Launch} {e : Env} {s : State} {m : MethodId} {args : Array Value} {below : List Frame} {meth : Method} {c : Code} {Q : State → Prop} {D : va_G} {ad : zR → Nat} {ca : Nat → ClassId} {A : Nat → Prop} {base n k : Nat} {L : Nat} {xs : Nat → Int32} {x3 : Int32} {MC MC' : cM} {MR MR' : rM} (hW : zWh zUA base ad A) (Z : zOK (zCm p l e room_1 s m args below meth c Q code 4 R_law tbL (zGL D ad ca A))) (hX : va_X (ad (2200, 0)) L xs s s.heap ∧ ad (2200, 0) < s.heap.size ∧ ¬ A (ad (2200, 0))) (hnk : n ≤ room_1.cells ∧ k ≤ room_1.slots) (h : mL_40 L xs x3 MC MR = some (MC', MR')) (K : zGo (zCm p l e room_1 s m args below meth c Q code 4 R_law tbL (zGL D ad ca A)) n k (1669, [(0, .inr (.inr (some (2200, 0)))), (1, .inr (.inr (some (11, 0)))), (2, .inr (.inr (some (12, 0)))), (3, .inl x3)], [], zmix MC' MR')) : zGo (zCm p l e room_1 s m args below meth c Q code 4 R_law tbL (zGL D ad ca A)) n k (1507, [(0, .inr (.inr (some (2200, 0)))), (1, .inr (.inr (some (11, 0)))), (2, .inr (.inr (some (12, 0)))), (3, .inl x3)], [], zmix MC MR) := by
  unfold mL_40 at h
  refine zblq Z rfl [(.aload 1, 1), (.aload 0, 1), (.iload 3, 1), (.iconst 1, 1), (.iadd, 1)] (S' := (1512, [(0, .inr (.inr (some (2200, 0)))), (1, .inr (.inr (some (11, 0)))), (2, .inr (.inr (some (12, 0)))), (3, .inl x3)], [.inl (x3 + (1 : Int32)), .inr (.inr (some (2200, 0))), .inr (.inr (some (11, 0)))], _)) (b := true) (by decide +kernel) rfl rfl ?_
  obtain ⟨hg285, h⟩ := zgd_inv h
  refine c_sld Z hX hg285 (by decide +kernel) ?_
  refine zblq Z rfl [(.aload 0, 1), (.iload 3, 1), (.iconst 2, 1), (.iadd, 1)] (S' := (1517, [(0, .inr (.inr (some (2200, 0)))), (1, .inr (.inr (some (11, 0)))), (2, .inr (.inr (some (12, 0)))), (3, .inl x3)], [.inl (x3 + (2 : Int32)), .inr (.inr (some (2200, 0))), .inl (xs (nx (x3 + (1 : Int32)))), .inr (.inr (some (11, 0)))], _)) (b := true) (by decide +kernel) rfl rfl ?_
  obtain ⟨hg286, h⟩ := zgd_inv h
  refine c_sld Z hX hg286 (by decide +kernel) ?_
  refine zblq Z rfl [(.aload 0, 1), (.iload 3, 1), (.iconst 3, 1), (.iadd, 1)] (S' := (1522, [(0, .inr (.inr (some (2200, 0)))), (1, .inr (.inr (some (11, 0)))), (2, .inr (.inr (some (12, 0)))), (3, .inl x3)], [.inl (x3 + (3 : Int32)), .inr (.inr (some (2200, 0))), .inl (xs (nx (x3 + (2 : Int32)))), .inl (xs (nx (x3 + (1 : Int32)))), .inr (.inr (some (11, 0)))], _)) (b := true) (by decide +kernel) rfl rfl ?_
  obtain ⟨hg287, h⟩ := zgd_inv h
  refine c_sld Z hX hg287 (by decide +kernel) ?_
  refine zblq Z rfl [(.aload 0, 1), (.iload 3, 1), (.iconst 4, 1), (.iadd, 1)] (S' := (1527, [(0, .inr (.inr (some (2200, 0)))), (1, .inr (.inr (some (11, 0)))), (2, .inr (.inr (some (12, 0)))), (3, .inl x3)], [.inl (x3 + (4 : Int32)), .inr (.inr (some (2200, 0))), .inl (xs (nx (x3 + (3 : Int32)))), .inl (xs (nx (x3 + (2 : Int32)))), .inl (xs (nx (x3 + (1 : Int32)))), .inr (.inr (some (11, 0)))], _)) (b := true) (by decide +kernel) rfl rfl ?_
  obtain ⟨hg288, h⟩ := zgd_inv h
  refine c_sld Z hX hg288 (by decide +kernel) ?_
  refine zblq Z rfl [(.aload 0, 1), (.iload 3, 1), (.iconst 5, 1), (.iadd, 1)] (S' := (1532, [(0, .inr (.inr (some (2200, 0)))), (1, .inr (.inr (some (11, 0)))), (2, .inr (.inr (some (12, 0)))), (3, .inl x3)], [.inl (x3 + (5 : Int32)), .inr (.inr (some (2200, 0))), .inl (xs (nx (x3 + (4 : Int32)))), .inl (xs (nx (x3 + (3 : Int32)))), .inl (xs (nx (x3 + (2 : Int32)))), .inl (xs (nx (x3 + (1 : Int32)))), .inr (.inr (some (11, 0)))], _)) (b := true) (by decide +kernel) rfl rfl ?_
  obtain ⟨hg289, h⟩ := zgd_inv h
  refine c_sld Z hX hg289 (by decide +kernel) ?_
  obtain ⟨r290, MC290, hc290, h⟩ := zbd_inv h
  refine lw_callC hW Z (as := [.inl (xs (nx (x3 + (1 : Int32)))), .inl (xs (nx (x3 + (2 : Int32)))), .inl (xs (nx (x3 + (3 : Int32)))), .inl (xs (nx (x3 + (4 : Int32)))), .inl (xs (nx (x3 + (5 : Int32))))]) (st := []) (m11_judge_met (zGC_ok hW) rfl hc290) cwL_184 m11_judge_in m11_judge_se rfl ⟨by exact Nat.le_of_ble_eq_true rfl, by exact Nat.le_of_ble_eq_true rfl⟩ rfl (by decide +kernel) hnk ?_
  refine zblq Z rfl [(.aload 2, 1), (.aload 0, 1), (.iload 3, 1), (.iconst 1, 1), (.iadd, 1)] (S' := (1541, [(0, .inr (.inr (some (2200, 0)))), (1, .inr (.inr (some (11, 0)))), (2, .inr (.inr (some (12, 0)))), (3, .inl x3)], [.inl (x3 + (1 : Int32)), .inr (.inr (some (2200, 0))), .inr (.inr (some (12, 0))), .inl r290], _)) (b := true) (by decide +kernel) rfl rfl ?_
  obtain ⟨hg291, h⟩ := zgd_inv h
  refine c_sld Z hX hg291 (by decide +kernel) ?_
  refine zblq Z rfl [(.aload 0, 1), (.iload 3, 1), (.iconst 2, 1), (.iadd, 1)] (S' := (1546, [(0, .inr (.inr (some (2200, 0)))), (1, .inr (.inr (some (11, 0)))), (2, .inr (.inr (some (12, 0)))), (3, .inl x3)], [.inl (x3 + (2 : Int32)), .inr (.inr (some (2200, 0))), .inl (xs (nx (x3 + (1 : Int32)))), .inr (.inr (some (12, 0))), .inl r290], _)) (b := true) (by decide +kernel) rfl rfl ?_
  obtain ⟨hg292, h⟩ := zgd_inv h
  refine c_sld Z hX hg292 (by decide +kernel) ?_
  refine zblq Z rfl [(.aload 0, 1), (.iload 3, 1), (.iconst 3, 1), (.iadd, 1)] (S' := (1551, [(0, .inr (.inr (some (2200, 0)))), (1, .inr (.inr (some (11, 0)))), (2, .inr (.inr (some (12, 0)))), (3, .inl x3)], [.inl (x3 + (3 : Int32)), .inr (.inr (some (2200, 0))), .inl (xs (nx (x3 + (2 : Int32)))), .inl (xs (nx (x3 + (1 : Int32)))), .inr (.inr (some (12, 0))), .inl r290], _)) (b := true) (by decide +kernel) rfl rfl ?_
  obtain ⟨hg293, h⟩ := zgd_inv h
  refine c_sld Z hX hg293 (by decide +kernel) ?_
  refine zblq Z rfl [(.aload 0, 1), (.iload 3, 1), (.iconst 4, 1), (.iadd, 1)] (S' := (1556, [(0, .inr (.inr (some (2200, 0)))), (1, .inr (.inr (some (11, 0)))), (2, .inr (.inr (some (12, 0)))), (3, .inl x3)], [.inl (x3 + (4 : Int32)), .inr (.inr (some (2200, 0))), .inl (xs (nx (x3 + (3 : Int32)))), .inl (xs (nx (x3 + (2 : Int32)))), .inl (xs (nx (x3 + (1 : Int32)))), .inr (.inr (some (12, 0))), .inl r290], _)) (b := true) (by decide +kernel) rfl rfl ?_
  obtain ⟨hg294, h⟩ := zgd_inv h
  refine c_sld Z hX hg294 (by decide +kernel) ?_
  refine zblq Z rfl [(.aload 0, 1), (.iload 3, 1), (.iconst 5, 1), (.iadd, 1)] (S' := (1561, [(0, .inr (.inr (some (2200, 0)))), (1, .inr (.inr (some (11, 0)))), (2, .inr (.inr (some (12, 0)))), (3, .inl x3)], [.inl (x3 + (5 : Int32)), .inr (.inr (some (2200, 0))), .inl (xs (nx (x3 + (4 : Int32)))), .inl (xs (nx (x3 + (3 : Int32)))), .inl (xs (nx (x3 + (2 : Int32)))), .inl (xs (nx (x3 + (1 : Int32)))), .inr (.inr (some (12, 0))), .inl r290], _)) (b := true) (by decide +kernel) rfl rfl ?_
  obtain ⟨hg295, h⟩ := zgd_inv h
  refine c_sld Z hX hg295 (by decide +kernel) ?_
  obtain ⟨r296, MR296, hc296, h⟩ := zbd_inv h
  refine lw_callR hW Z (as := [.inl (xs (nx (x3 + (1 : Int32)))), .inl (xs (nx (x3 + (2 : Int32)))), .inl (xs (nx (x3 + (3 : Int32)))), .inl (xs (nx (x3 + (4 : Int32)))), .inl (xs (nx (x3 + (5 : Int32))))]) (st := [.inl r290]) (m12_judge_met (zGR_ok hW) rfl hc296) cwL_187 m12_judge_in m12_judge_se rfl ⟨by exact Nat.le_of_ble_eq_true rfl, by exact Nat.le_of_ble_eq_true rfl⟩ rfl (by decide +kernel) hnk ?_
  refine zic_eq Z (off := 104) (tgt := 1669) (by decide +kernel) (by decide) (fun hb297 => ?_) (fun hb297 => ?_)
  · replace h := zite_t h hb297
    cases h
    exact K
  · replace h := zite_f h hb297
    cases h
def mL_41 (L : Nat) (xs : Nat → Int32) (x3 : Int32) (MC : cM) (MR : rM) : Option (cM × rM) := zbd (m11_quarrel MC) (fun r298 MC298 => zbd (m12_quarrel MR) (fun r299 MR299 => (if r298 = r299 then some (MC298, MR299) else none)))
set_option maxHeartbeats 4000000 in
theorem mL_41_ok {p : Program} {l : Launch} {e : Env} {s : State} {m : MethodId} {args : Array Value} {below : List Frame} {meth : Method} {c : Code} {Q : State → Prop} {D : va_G} {ad : zR → Nat} {ca : Nat → ClassId} {A : Nat → Prop} {base n k : Nat} {L : Nat} {xs : Nat → Int32} {x3 : Int32} {MC MC' : cM} {MR MR' : rM} (hW : zWh zUA base ad A) (Z : zOK (zCm p l e room_1 s m args below meth c Q code 4 R_law tbL (zGL D ad ca A))) (hX : va_X (ad (2200, 0)) L xs s s.heap ∧ ad (2200, 0) < s.heap.size ∧ ¬ A (ad (2200, 0))) (hnk : n ≤ room_1.cells ∧ k ≤ room_1.slots) (h : mL_41 L xs x3 MC MR = some (MC', MR')) (K : zGo (zCm p l e room_1 s m args below meth c Q code 4 R_law tbL (zGL D ad ca A)) n k (1669, [(0, .inr (.inr (some (2200, 0)))), (1, .inr (.inr (some (11, 0)))), (2, .inr (.inr (some (12, 0)))), (3, .inl x3)], [], zmix MC' MR')) : zGo (zCm p l e room_1 s m args below meth c Q code 4 R_law tbL (zGL D ad ca A)) n k (1570, [(0, .inr (.inr (some (2200, 0)))), (1, .inr (.inr (some (11, 0)))), (2, .inr (.inr (some (12, 0)))), (3, .inl x3)], [], zmix MC MR) := by
  unfold mL_41 at h
  refine zblq Z rfl [(.aload 1, 1)] (S' := (1571, [(0, .inr (.inr (some (2200, 0)))), (1, .inr (.inr (some (11, 0)))), (2, .inr (.inr (some (12, 0)))), (3, .inl x3)], [.inr (.inr (some (11, 0)))], _)) (b := true) (by decide +kernel) rfl rfl ?_
  obtain ⟨r298, MC298, hc298, h⟩ := zbd_inv h
  refine lw_callC hW Z (as := []) (st := []) (m11_quarrel_met (zGC_ok hW) rfl hc298) cwL_188 m11_quarrel_in m11_quarrel_se rfl ⟨by exact Nat.le_of_ble_eq_true rfl, by exact Nat.le_of_ble_eq_true rfl⟩ rfl (by decide +kernel) hnk ?_
  refine zblq Z rfl [(.aload 2, 1)] (S' := (1575, [(0, .inr (.inr (some (2200, 0)))), (1, .inr (.inr (some (11, 0)))), (2, .inr (.inr (some (12, 0)))), (3, .inl x3)], [.inr (.inr (some (12, 0))), .inl r298], _)) (b := true) (by decide +kernel) rfl rfl ?_
  obtain ⟨r299, MR299, hc299, h⟩ := zbd_inv h
  refine lw_callR hW Z (as := []) (st := [.inl r298]) (m12_quarrel_met (zGR_ok hW) rfl hc299) cwL_191 m12_quarrel_in m12_quarrel_se rfl ⟨by exact Nat.le_of_ble_eq_true rfl, by exact Nat.le_of_ble_eq_true rfl⟩ rfl (by decide +kernel) hnk ?_
  refine zic_eq Z (off := 91) (tgt := 1669) (by decide +kernel) (by decide) (fun hb300 => ?_) (fun hb300 => ?_)
  · replace h := zite_t h hb300
    cases h
    exact K
  · replace h := zite_f h hb300
    cases h
def mL_42 (L : Nat) (xs : Nat → Int32) (x3 : Int32) (MC : cM) (MR : rM) : Option (cM × rM) := zgd (zin (x3 + (1 : Int32)) L) (zgd (zin (x3 + (2 : Int32)) L) (zgd (zin (x3 + (3 : Int32)) L) (zgd (zin (x3 + (4 : Int32)) L) (zgd (zin (x3 + (5 : Int32)) L) (zbd (m11_settle (xs (nx (x3 + (1 : Int32)))) (xs (nx (x3 + (2 : Int32)))) (xs (nx (x3 + (3 : Int32)))) (xs (nx (x3 + (4 : Int32)))) (xs (nx (x3 + (5 : Int32)))) MC) (fun r306 MC306 => zgd (zin (x3 + (1 : Int32)) L) (zgd (zin (x3 + (2 : Int32)) L) (zgd (zin (x3 + (3 : Int32)) L) (zgd (zin (x3 + (4 : Int32)) L) (zgd (zin (x3 + (5 : Int32)) L) (zbd (m12_settle (xs (nx (x3 + (1 : Int32)))) (xs (nx (x3 + (2 : Int32)))) (xs (nx (x3 + (3 : Int32)))) (xs (nx (x3 + (4 : Int32)))) (xs (nx (x3 + (5 : Int32)))) MR) (fun r312 MR312 => (if r306 = r312 then some (MC306, MR312) else none)))))))))))))
set_option maxHeartbeats 4000000 in
theorem mL_42_ok {p : Program} {l : Launch} {e : Env} {s : State} {m : MethodId} {args : Array Value} {below : List Frame} {meth : Method} {c : Code} {Q : State → Prop} {D : va_G} {ad : zR → Nat} {ca : Nat → ClassId} {A : Nat → Prop} {base n k : Nat} {L : Nat} {xs : Nat → Int32} {x3 : Int32} {MC MC' : cM} {MR MR' : rM} (hW : zWh zUA base ad A) (Z : zOK (zCm p l e room_1 s m args below meth c Q code 4 R_law tbL (zGL D ad ca A))) (hX : va_X (ad (2200, 0)) L xs s s.heap ∧ ad (2200, 0) < s.heap.size ∧ ¬ A (ad (2200, 0))) (hnk : n ≤ room_1.cells ∧ k ≤ room_1.slots) (h : mL_42 L xs x3 MC MR = some (MC', MR')) (K : zGo (zCm p l e room_1 s m args below meth c Q code 4 R_law tbL (zGL D ad ca A)) n k (1669, [(0, .inr (.inr (some (2200, 0)))), (1, .inr (.inr (some (11, 0)))), (2, .inr (.inr (some (12, 0)))), (3, .inl x3)], [], zmix MC' MR')) : zGo (zCm p l e room_1 s m args below meth c Q code 4 R_law tbL (zGL D ad ca A)) n k (1583, [(0, .inr (.inr (some (2200, 0)))), (1, .inr (.inr (some (11, 0)))), (2, .inr (.inr (some (12, 0)))), (3, .inl x3)], [], zmix MC MR) := by
  unfold mL_42 at h
  refine zblq Z rfl [(.aload 1, 1), (.aload 0, 1), (.iload 3, 1), (.iconst 1, 1), (.iadd, 1)] (S' := (1588, [(0, .inr (.inr (some (2200, 0)))), (1, .inr (.inr (some (11, 0)))), (2, .inr (.inr (some (12, 0)))), (3, .inl x3)], [.inl (x3 + (1 : Int32)), .inr (.inr (some (2200, 0))), .inr (.inr (some (11, 0)))], _)) (b := true) (by decide +kernel) rfl rfl ?_
  obtain ⟨hg301, h⟩ := zgd_inv h
  refine c_sld Z hX hg301 (by decide +kernel) ?_
  refine zblq Z rfl [(.aload 0, 1), (.iload 3, 1), (.iconst 2, 1), (.iadd, 1)] (S' := (1593, [(0, .inr (.inr (some (2200, 0)))), (1, .inr (.inr (some (11, 0)))), (2, .inr (.inr (some (12, 0)))), (3, .inl x3)], [.inl (x3 + (2 : Int32)), .inr (.inr (some (2200, 0))), .inl (xs (nx (x3 + (1 : Int32)))), .inr (.inr (some (11, 0)))], _)) (b := true) (by decide +kernel) rfl rfl ?_
  obtain ⟨hg302, h⟩ := zgd_inv h
  refine c_sld Z hX hg302 (by decide +kernel) ?_
  refine zblq Z rfl [(.aload 0, 1), (.iload 3, 1), (.iconst 3, 1), (.iadd, 1)] (S' := (1598, [(0, .inr (.inr (some (2200, 0)))), (1, .inr (.inr (some (11, 0)))), (2, .inr (.inr (some (12, 0)))), (3, .inl x3)], [.inl (x3 + (3 : Int32)), .inr (.inr (some (2200, 0))), .inl (xs (nx (x3 + (2 : Int32)))), .inl (xs (nx (x3 + (1 : Int32)))), .inr (.inr (some (11, 0)))], _)) (b := true) (by decide +kernel) rfl rfl ?_
  obtain ⟨hg303, h⟩ := zgd_inv h
  refine c_sld Z hX hg303 (by decide +kernel) ?_
  refine zblq Z rfl [(.aload 0, 1), (.iload 3, 1), (.iconst 4, 1), (.iadd, 1)] (S' := (1603, [(0, .inr (.inr (some (2200, 0)))), (1, .inr (.inr (some (11, 0)))), (2, .inr (.inr (some (12, 0)))), (3, .inl x3)], [.inl (x3 + (4 : Int32)), .inr (.inr (some (2200, 0))), .inl (xs (nx (x3 + (3 : Int32)))), .inl (xs (nx (x3 + (2 : Int32)))), .inl (xs (nx (x3 + (1 : Int32)))), .inr (.inr (some (11, 0)))], _)) (b := true) (by decide +kernel) rfl rfl ?_
  obtain ⟨hg304, h⟩ := zgd_inv h
  refine c_sld Z hX hg304 (by decide +kernel) ?_
  refine zblq Z rfl [(.aload 0, 1), (.iload 3, 1), (.iconst 5, 1), (.iadd, 1)] (S' := (1608, [(0, .inr (.inr (some (2200, 0)))), (1, .inr (.inr (some (11, 0)))), (2, .inr (.inr (some (12, 0)))), (3, .inl x3)], [.inl (x3 + (5 : Int32)), .inr (.inr (some (2200, 0))), .inl (xs (nx (x3 + (4 : Int32)))), .inl (xs (nx (x3 + (3 : Int32)))), .inl (xs (nx (x3 + (2 : Int32)))), .inl (xs (nx (x3 + (1 : Int32)))), .inr (.inr (some (11, 0)))], _)) (b := true) (by decide +kernel) rfl rfl ?_
  obtain ⟨hg305, h⟩ := zgd_inv h
  refine c_sld Z hX hg305 (by decide +kernel) ?_
  obtain ⟨r306, MC306, hc306, h⟩ := zbd_inv h
  refine lw_callC hW Z (as := [.inl (xs (nx (x3 + (1 : Int32)))), .inl (xs (nx (x3 + (2 : Int32)))), .inl (xs (nx (x3 + (3 : Int32)))), .inl (xs (nx (x3 + (4 : Int32)))), .inl (xs (nx (x3 + (5 : Int32))))]) (st := []) (m11_settle_met (zGC_ok hW) rfl hc306) cwL_192 m11_settle_in m11_settle_se rfl ⟨by exact Nat.le_of_ble_eq_true rfl, by exact Nat.le_of_ble_eq_true rfl⟩ rfl (by decide +kernel) hnk ?_
  refine zblq Z rfl [(.aload 2, 1), (.aload 0, 1), (.iload 3, 1), (.iconst 1, 1), (.iadd, 1)] (S' := (1617, [(0, .inr (.inr (some (2200, 0)))), (1, .inr (.inr (some (11, 0)))), (2, .inr (.inr (some (12, 0)))), (3, .inl x3)], [.inl (x3 + (1 : Int32)), .inr (.inr (some (2200, 0))), .inr (.inr (some (12, 0))), .inl r306], _)) (b := true) (by decide +kernel) rfl rfl ?_
  obtain ⟨hg307, h⟩ := zgd_inv h
  refine c_sld Z hX hg307 (by decide +kernel) ?_
  refine zblq Z rfl [(.aload 0, 1), (.iload 3, 1), (.iconst 2, 1), (.iadd, 1)] (S' := (1622, [(0, .inr (.inr (some (2200, 0)))), (1, .inr (.inr (some (11, 0)))), (2, .inr (.inr (some (12, 0)))), (3, .inl x3)], [.inl (x3 + (2 : Int32)), .inr (.inr (some (2200, 0))), .inl (xs (nx (x3 + (1 : Int32)))), .inr (.inr (some (12, 0))), .inl r306], _)) (b := true) (by decide +kernel) rfl rfl ?_
  obtain ⟨hg308, h⟩ := zgd_inv h
  refine c_sld Z hX hg308 (by decide +kernel) ?_
  refine zblq Z rfl [(.aload 0, 1), (.iload 3, 1), (.iconst 3, 1), (.iadd, 1)] (S' := (1627, [(0, .inr (.inr (some (2200, 0)))), (1, .inr (.inr (some (11, 0)))), (2, .inr (.inr (some (12, 0)))), (3, .inl x3)], [.inl (x3 + (3 : Int32)), .inr (.inr (some (2200, 0))), .inl (xs (nx (x3 + (2 : Int32)))), .inl (xs (nx (x3 + (1 : Int32)))), .inr (.inr (some (12, 0))), .inl r306], _)) (b := true) (by decide +kernel) rfl rfl ?_
  obtain ⟨hg309, h⟩ := zgd_inv h
  refine c_sld Z hX hg309 (by decide +kernel) ?_
  refine zblq Z rfl [(.aload 0, 1), (.iload 3, 1), (.iconst 4, 1), (.iadd, 1)] (S' := (1632, [(0, .inr (.inr (some (2200, 0)))), (1, .inr (.inr (some (11, 0)))), (2, .inr (.inr (some (12, 0)))), (3, .inl x3)], [.inl (x3 + (4 : Int32)), .inr (.inr (some (2200, 0))), .inl (xs (nx (x3 + (3 : Int32)))), .inl (xs (nx (x3 + (2 : Int32)))), .inl (xs (nx (x3 + (1 : Int32)))), .inr (.inr (some (12, 0))), .inl r306], _)) (b := true) (by decide +kernel) rfl rfl ?_
  obtain ⟨hg310, h⟩ := zgd_inv h
  refine c_sld Z hX hg310 (by decide +kernel) ?_
  refine zblq Z rfl [(.aload 0, 1), (.iload 3, 1), (.iconst 5, 1), (.iadd, 1)] (S' := (1637, [(0, .inr (.inr (some (2200, 0)))), (1, .inr (.inr (some (11, 0)))), (2, .inr (.inr (some (12, 0)))), (3, .inl x3)], [.inl (x3 + (5 : Int32)), .inr (.inr (some (2200, 0))), .inl (xs (nx (x3 + (4 : Int32)))), .inl (xs (nx (x3 + (3 : Int32)))), .inl (xs (nx (x3 + (2 : Int32)))), .inl (xs (nx (x3 + (1 : Int32)))), .inr (.inr (some (12, 0))), .inl r306], _)) (b := true) (by decide +kernel) rfl rfl ?_
  obtain ⟨hg311, h⟩ := zgd_inv h
  refine c_sld Z hX hg311 (by decide +kernel) ?_
  obtain ⟨r312, MR312, hc312, h⟩ := zbd_inv h
  refine lw_callR hW Z (as := [.inl (xs (nx (x3 + (1 : Int32)))), .inl (xs (nx (x3 + (2 : Int32)))), .inl (xs (nx (x3 + (3 : Int32)))), .inl (xs (nx (x3 + (4 : Int32)))), .inl (xs (nx (x3 + (5 : Int32))))]) (st := [.inl r306]) (m12_settle_met (zGR_ok hW) rfl hc312) cwL_195 m12_settle_in m12_settle_se rfl ⟨by exact Nat.le_of_ble_eq_true rfl, by exact Nat.le_of_ble_eq_true rfl⟩ rfl (by decide +kernel) hnk ?_
  refine zic_eq Z (off := 28) (tgt := 1669) (by decide +kernel) (by decide) (fun hb313 => ?_) (fun hb313 => ?_)
  · replace h := zite_t h hb313
    cases h
    exact K
  · replace h := zite_f h hb313
    cases h
def mL_43 (L : Nat) (xs : Nat → Int32) (x3 : Int32) (MC : cM) (MR : rM) : Option (cM × rM) := zgd (zin (x3 + (1 : Int32)) L) (zbd (m11_count (xs (nx (x3 + (1 : Int32)))) MC) (fun r315 MC315 => zgd (zin (x3 + (1 : Int32)) L) (zbd (m12_count (xs (nx (x3 + (1 : Int32)))) MR) (fun r317 MR317 => (if r315 = r317 then some (MC315, MR317) else none)))))
set_option maxHeartbeats 4000000 in
theorem mL_43_ok {p : Program} {l : Launch} {e : Env} {s : State} {m : MethodId} {args : Array Value} {below : List Frame} {meth : Method} {c : Code} {Q : State → Prop} {D : va_G} {ad : zR → Nat} {ca : Nat → ClassId} {A : Nat → Prop} {base n k : Nat} {L : Nat} {xs : Nat → Int32} {x3 : Int32} {MC MC' : cM} {MR MR' : rM} (hW : zWh zUA base ad A) (Z : zOK (zCm p l e room_1 s m args below meth c Q code 4 R_law tbL (zGL D ad ca A))) (hX : va_X (ad (2200, 0)) L xs s s.heap ∧ ad (2200, 0) < s.heap.size ∧ ¬ A (ad (2200, 0))) (hnk : n ≤ room_1.cells ∧ k ≤ room_1.slots) (h : mL_43 L xs x3 MC MR = some (MC', MR')) (K : zGo (zCm p l e room_1 s m args below meth c Q code 4 R_law tbL (zGL D ad ca A)) n k (1669, [(0, .inr (.inr (some (2200, 0)))), (1, .inr (.inr (some (11, 0)))), (2, .inr (.inr (some (12, 0)))), (3, .inl x3)], [], zmix MC' MR')) : zGo (zCm p l e room_1 s m args below meth c Q code 4 R_law tbL (zGL D ad ca A)) n k (1646, [(0, .inr (.inr (some (2200, 0)))), (1, .inr (.inr (some (11, 0)))), (2, .inr (.inr (some (12, 0)))), (3, .inl x3)], [], zmix MC MR) := by
  unfold mL_43 at h
  refine zblq Z rfl [(.aload 1, 1), (.aload 0, 1), (.iload 3, 1), (.iconst 1, 1), (.iadd, 1)] (S' := (1651, [(0, .inr (.inr (some (2200, 0)))), (1, .inr (.inr (some (11, 0)))), (2, .inr (.inr (some (12, 0)))), (3, .inl x3)], [.inl (x3 + (1 : Int32)), .inr (.inr (some (2200, 0))), .inr (.inr (some (11, 0)))], _)) (b := true) (by decide +kernel) rfl rfl ?_
  obtain ⟨hg314, h⟩ := zgd_inv h
  refine c_sld Z hX hg314 (by decide +kernel) ?_
  obtain ⟨r315, MC315, hc315, h⟩ := zbd_inv h
  refine lw_callC hW Z (as := [.inl (xs (nx (x3 + (1 : Int32))))]) (st := []) (m11_count_met (zGC_ok hW) rfl hc315) cwL_196 m11_count_in m11_count_se rfl ⟨by exact Nat.le_of_ble_eq_true rfl, by exact Nat.le_of_ble_eq_true rfl⟩ rfl (by decide +kernel) hnk ?_
  refine zblq Z rfl [(.aload 2, 1), (.aload 0, 1), (.iload 3, 1), (.iconst 1, 1), (.iadd, 1)] (S' := (1660, [(0, .inr (.inr (some (2200, 0)))), (1, .inr (.inr (some (11, 0)))), (2, .inr (.inr (some (12, 0)))), (3, .inl x3)], [.inl (x3 + (1 : Int32)), .inr (.inr (some (2200, 0))), .inr (.inr (some (12, 0))), .inl r315], _)) (b := true) (by decide +kernel) rfl rfl ?_
  obtain ⟨hg316, h⟩ := zgd_inv h
  refine c_sld Z hX hg316 (by decide +kernel) ?_
  obtain ⟨r317, MR317, hc317, h⟩ := zbd_inv h
  refine lw_callR hW Z (as := [.inl (xs (nx (x3 + (1 : Int32))))]) (st := [.inl r315]) (m12_count_met (zGR_ok hW) rfl hc317) cwL_199 m12_count_in m12_count_se rfl ⟨by exact Nat.le_of_ble_eq_true rfl, by exact Nat.le_of_ble_eq_true rfl⟩ rfl (by decide +kernel) hnk ?_
  refine zic_eq Z (off := 5) (tgt := 1669) (by decide +kernel) (by decide) (fun hb318 => ?_) (fun hb318 => ?_)
  · replace h := zite_t h hb318
    cases h
    exact K
  · replace h := zite_f h hb318
    cases h
