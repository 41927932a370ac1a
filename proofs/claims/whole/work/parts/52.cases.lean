def mL_0 (L : Nat) (xs : Nat → Int32) (x3 : Int32) (MC : cM) (MR : rM) : Option (cM × rM) := zgd (zin (x3 + (1 : Int32)) L) (zgd (zin (x3 + (2 : Int32)) L) (zbd (m11_box (xs (nx (x3 + (1 : Int32)))) (xs (nx (x3 + (2 : Int32)))) MC) (fun r3 MC3 => zgd (zin (x3 + (1 : Int32)) L) (zgd (zin (x3 + (2 : Int32)) L) (zbd (m12_box (xs (nx (x3 + (1 : Int32)))) (xs (nx (x3 + (2 : Int32)))) MR) (fun r6 MR6 => (if r3 = r6 then some (MC3, MR6) else none)))))))
set_option maxHeartbeats 4000000 in
theorem mL_0_ok {p : Program} {l : Launch} {e : Env} {s : State} {m : MethodId} {args : Array Value} {below : List Frame} {meth : Method} {c : Code} {Q : State → Prop} {D : va_G} {ad : zR → Nat} {ca : Nat → ClassId} {A : Nat → Prop} {base n k : Nat} {L : Nat} {xs : Nat → Int32} {x3 : Int32} {MC MC' : cM} {MR MR' : rM} (hW : zWh zUA base ad A) (Z : zOK (zCm p l e room_1 s m args below meth c Q code 4 R_law tbL (zGL D ad ca A))) (hX : va_X (ad (2200, 0)) L xs s s.heap ∧ ad (2200, 0) < s.heap.size ∧ ¬ A (ad (2200, 0))) (hnk : n ≤ room_1.cells ∧ k ≤ room_1.slots) (h : mL_0 L xs x3 MC MR = some (MC', MR')) (K : zGo (zCm p l e room_1 s m args below meth c Q code 4 R_law tbL (zGL D ad ca A)) n k (1669, [(0, .inr (.inr (some (2200, 0)))), (1, .inr (.inr (some (11, 0)))), (2, .inr (.inr (some (12, 0)))), (3, .inl x3)], [], zmix MC' MR')) : zGo (zCm p l e room_1 s m args below meth c Q code 4 R_law tbL (zGL D ad ca A)) n k (224, [(0, .inr (.inr (some (2200, 0)))), (1, .inr (.inr (some (11, 0)))), (2, .inr (.inr (some (12, 0)))), (3, .inl x3)], [], zmix MC MR) := by
  unfold mL_0 at h
  refine zblq Z rfl [(.aload 1, 1), (.aload 0, 1), (.iload 3, 1), (.iconst 1, 1), (.iadd, 1)] (S' := (229, [(0, .inr (.inr (some (2200, 0)))), (1, .inr (.inr (some (11, 0)))), (2, .inr (.inr (some (12, 0)))), (3, .inl x3)], [.inl (x3 + (1 : Int32)), .inr (.inr (some (2200, 0))), .inr (.inr (some (11, 0)))], _)) (b := true) (by decide +kernel) rfl rfl ?_
  obtain ⟨hg1, h⟩ := zgd_inv h
  refine c_sld Z hX hg1 (by decide +kernel) ?_
  refine zblq Z rfl [(.aload 0, 1), (.iload 3, 1), (.iconst 2, 1), (.iadd, 1)] (S' := (234, [(0, .inr (.inr (some (2200, 0)))), (1, .inr (.inr (some (11, 0)))), (2, .inr (.inr (some (12, 0)))), (3, .inl x3)], [.inl (x3 + (2 : Int32)), .inr (.inr (some (2200, 0))), .inl (xs (nx (x3 + (1 : Int32)))), .inr (.inr (some (11, 0)))], _)) (b := true) (by decide +kernel) rfl rfl ?_
  obtain ⟨hg2, h⟩ := zgd_inv h
  refine c_sld Z hX hg2 (by decide +kernel) ?_
  obtain ⟨r3, MC3, hc3, h⟩ := zbd_inv h
  refine lw_callC hW Z (as := [.inl (xs (nx (x3 + (1 : Int32)))), .inl (xs (nx (x3 + (2 : Int32))))]) (st := []) (m11_box_met (zGC_ok hW) rfl hc3) cwL_13 m11_box_in m11_box_se rfl ⟨by exact Nat.le_of_ble_eq_true rfl, by exact Nat.le_of_ble_eq_true rfl⟩ rfl (by decide +kernel) hnk ?_
  refine zblq Z rfl [(.aload 2, 1), (.aload 0, 1), (.iload 3, 1), (.iconst 1, 1), (.iadd, 1)] (S' := (243, [(0, .inr (.inr (some (2200, 0)))), (1, .inr (.inr (some (11, 0)))), (2, .inr (.inr (some (12, 0)))), (3, .inl x3)], [.inl (x3 + (1 : Int32)), .inr (.inr (some (2200, 0))), .inr (.inr (some (12, 0))), .inl r3], _)) (b := true) (by decide +kernel) rfl rfl ?_
  obtain ⟨hg4, h⟩ := zgd_inv h
  refine c_sld Z hX hg4 (by decide +kernel) ?_
  refine zblq Z rfl [(.aload 0, 1), (.iload 3, 1), (.iconst 2, 1), (.iadd, 1)] (S' := (248, [(0, .inr (.inr (some (2200, 0)))), (1, .inr (.inr (some (11, 0)))), (2, .inr (.inr (some (12, 0)))), (3, .inl x3)], [.inl (x3 + (2 : Int32)), .inr (.inr (some (2200, 0))), .inl (xs (nx (x3 + (1 : Int32)))), .inr (.inr (some (12, 0))), .inl r3], _)) (b := true) (by decide +kernel) rfl rfl ?_
  obtain ⟨hg5, h⟩ := zgd_inv h
  refine c_sld Z hX hg5 (by decide +kernel) ?_
  obtain ⟨r6, MR6, hc6, h⟩ := zbd_inv h
  refine lw_callR hW Z (as := [.inl (xs (nx (x3 + (1 : Int32)))), .inl (xs (nx (x3 + (2 : Int32))))]) (st := [.inl r3]) (m12_box_met (zGR_ok hW) rfl hc6) cwL_17 m12_box_in m12_box_se rfl ⟨by exact Nat.le_of_ble_eq_true rfl, by exact Nat.le_of_ble_eq_true rfl⟩ rfl (by decide +kernel) hnk ?_
  refine zic_eq Z (off := 1417) (tgt := 1669) (by decide +kernel) (by decide) (fun hb7 => ?_) (fun hb7 => ?_)
  · replace h := zite_t h hb7
    cases h
    exact K
  · replace h := zite_f h hb7
    cases h
def mL_1 (L : Nat) (xs : Nat → Int32) (x3 : Int32) (MC : cM) (MR : rM) : Option (cM × rM) := zgd (zin (x3 + (1 : Int32)) L) (zgd (zin (x3 + (2 : Int32)) L) (zgd (zin (x3 + (3 : Int32)) L) ((if (xs (nx (x3 + (3 : Int32)))) = 0 then zbd (m11_hears (xs (nx (x3 + (1 : Int32)))) (xs (nx (x3 + (2 : Int32)))) (0 : Int32) MC) (fun r12 MC12 => zgd (zin (x3 + (1 : Int32)) L) (zgd (zin (x3 + (2 : Int32)) L) (zgd (zin (x3 + (3 : Int32)) L) ((if (xs (nx (x3 + (3 : Int32)))) = 0 then zbd (m12_hears (xs (nx (x3 + (1 : Int32)))) (xs (nx (x3 + (2 : Int32)))) (0 : Int32) MR) (fun r17 MR17 => (if r12 = r17 then some (MC12, MR17) else none)) else zbd (m12_hears (xs (nx (x3 + (1 : Int32)))) (xs (nx (x3 + (2 : Int32)))) (1 : Int32) MR) (fun r19 MR19 => (if r12 = r19 then some (MC12, MR19) else none))))))) else zbd (m11_hears (xs (nx (x3 + (1 : Int32)))) (xs (nx (x3 + (2 : Int32)))) (1 : Int32) MC) (fun r21 MC21 => zgd (zin (x3 + (1 : Int32)) L) (zgd (zin (x3 + (2 : Int32)) L) (zgd (zin (x3 + (3 : Int32)) L) ((if (xs (nx (x3 + (3 : Int32)))) = 0 then zbd (m12_hears (xs (nx (x3 + (1 : Int32)))) (xs (nx (x3 + (2 : Int32)))) (0 : Int32) MR) (fun r26 MR26 => (if r21 = r26 then some (MC21, MR26) else none)) else zbd (m12_hears (xs (nx (x3 + (1 : Int32)))) (xs (nx (x3 + (2 : Int32)))) (1 : Int32) MR) (fun r28 MR28 => (if r21 = r28 then some (MC21, MR28) else none)))))))))))
set_option maxHeartbeats 4000000 in
theorem mL_1_ok {p : Program} {l : Launch} {e : Env} {s : State} {m : MethodId} {args : Array Value} {below : List Frame} {meth : Method} {c : Code} {Q : State → Prop} {D : va_G} {ad : zR → Nat} {ca : Nat → ClassId} {A : Nat → Prop} {base n k : Nat} {L : Nat} {xs : Nat → Int32} {x3 : Int32} {MC MC' : cM} {MR MR' : rM} (hW : zWh zUA base ad A) (Z : zOK (zCm p l e room_1 s m args below meth c Q code 4 R_law tbL (zGL D ad ca A))) (hX : va_X (ad (2200, 0)) L xs s s.heap ∧ ad (2200, 0) < s.heap.size ∧ ¬ A (ad (2200, 0))) (hnk : n ≤ room_1.cells ∧ k ≤ room_1.slots) (h : mL_1 L xs x3 MC MR = some (MC', MR')) (K : zGo (zCm p l e room_1 s m args below meth c Q code 4 R_law tbL (zGL D ad ca A)) n k (1669, [(0, .inr (.inr (some (2200, 0)))), (1, .inr (.inr (some (11, 0)))), (2, .inr (.inr (some (12, 0)))), (3, .inl x3)], [], zmix MC' MR')) : zGo (zCm p l e room_1 s m args below meth c Q code 4 R_law tbL (zGL D ad ca A)) n k (257, [(0, .inr (.inr (some (2200, 0)))), (1, .inr (.inr (some (11, 0)))), (2, .inr (.inr (some (12, 0)))), (3, .inl x3)], [], zmix MC MR) := by
  unfold mL_1 at h
  refine zblq Z rfl [(.aload 1, 1), (.aload 0, 1), (.iload 3, 1), (.iconst 1, 1), (.iadd, 1)] (S' := (262, [(0, .inr (.inr (some (2200, 0)))), (1, .inr (.inr (some (11, 0)))), (2, .inr (.inr (some (12, 0)))), (3, .inl x3)], [.inl (x3 + (1 : Int32)), .inr (.inr (some (2200, 0))), .inr (.inr (some (11, 0)))], _)) (b := true) (by decide +kernel) rfl rfl ?_
  obtain ⟨hg8, h⟩ := zgd_inv h
  refine c_sld Z hX hg8 (by decide +kernel) ?_
  refine zblq Z rfl [(.aload 0, 1), (.iload 3, 1), (.iconst 2, 1), (.iadd, 1)] (S' := (267, [(0, .inr (.inr (some (2200, 0)))), (1, .inr (.inr (some (11, 0)))), (2, .inr (.inr (some (12, 0)))), (3, .inl x3)], [.inl (x3 + (2 : Int32)), .inr (.inr (some (2200, 0))), .inl (xs (nx (x3 + (1 : Int32)))), .inr (.inr (some (11, 0)))], _)) (b := true) (by decide +kernel) rfl rfl ?_
  obtain ⟨hg9, h⟩ := zgd_inv h
  refine c_sld Z hX hg9 (by decide +kernel) ?_
  refine zblq Z rfl [(.aload 0, 1), (.iload 3, 1), (.iconst 3, 1), (.iadd, 1)] (S' := (272, [(0, .inr (.inr (some (2200, 0)))), (1, .inr (.inr (some (11, 0)))), (2, .inr (.inr (some (12, 0)))), (3, .inl x3)], [.inl (x3 + (3 : Int32)), .inr (.inr (some (2200, 0))), .inl (xs (nx (x3 + (2 : Int32)))), .inl (xs (nx (x3 + (1 : Int32)))), .inr (.inr (some (11, 0)))], _)) (b := true) (by decide +kernel) rfl rfl ?_
  obtain ⟨hg10, h⟩ := zgd_inv h
  refine c_sld Z hX hg10 (by decide +kernel) ?_
  refine zif_eq Z (off := 7) (tgt := 280) (by decide +kernel) (by decide) (fun hb11 => ?_) (fun hb11 => ?_)
  · replace h := zite_t h hb11
    refine zblq Z rfl [(.iconst 0, 1)] (S' := (281, [(0, .inr (.inr (some (2200, 0)))), (1, .inr (.inr (some (11, 0)))), (2, .inr (.inr (some (12, 0)))), (3, .inl x3)], [.inl (0 : Int32), .inl (xs (nx (x3 + (2 : Int32)))), .inl (xs (nx (x3 + (1 : Int32)))), .inr (.inr (some (11, 0)))], _)) (b := true) (by decide +kernel) rfl rfl ?_
    obtain ⟨r12, MC12, hc12, h⟩ := zbd_inv h
    refine lw_callC hW Z (as := [.inl (xs (nx (x3 + (1 : Int32)))), .inl (xs (nx (x3 + (2 : Int32)))), .inl (0 : Int32)]) (st := []) (m11_hears_met (zGC_ok hW) rfl hc12) cwL_18 m11_hears_in m11_hears_se rfl ⟨by exact Nat.le_of_ble_eq_true rfl, by exact Nat.le_of_ble_eq_true rfl⟩ rfl (by decide +kernel) hnk ?_
    refine zblq Z rfl [(.aload 2, 1), (.aload 0, 1), (.iload 3, 1), (.iconst 1, 1), (.iadd, 1)] (S' := (289, [(0, .inr (.inr (some (2200, 0)))), (1, .inr (.inr (some (11, 0)))), (2, .inr (.inr (some (12, 0)))), (3, .inl x3)], [.inl (x3 + (1 : Int32)), .inr (.inr (some (2200, 0))), .inr (.inr (some (12, 0))), .inl r12], _)) (b := true) (by decide +kernel) rfl rfl ?_
    obtain ⟨hg13, h⟩ := zgd_inv h
    refine c_sld Z hX hg13 (by decide +kernel) ?_
    refine zblq Z rfl [(.aload 0, 1), (.iload 3, 1), (.iconst 2, 1), (.iadd, 1)] (S' := (294, [(0, .inr (.inr (some (2200, 0)))), (1, .inr (.inr (some (11, 0)))), (2, .inr (.inr (some (12, 0)))), (3, .inl x3)], [.inl (x3 + (2 : Int32)), .inr (.inr (some (2200, 0))), .inl (xs (nx (x3 + (1 : Int32)))), .inr (.inr (some (12, 0))), .inl r12], _)) (b := true) (by decide +kernel) rfl rfl ?_
    obtain ⟨hg14, h⟩ := zgd_inv h
    refine c_sld Z hX hg14 (by decide +kernel) ?_
    refine zblq Z rfl [(.aload 0, 1), (.iload 3, 1), (.iconst 3, 1), (.iadd, 1)] (S' := (299, [(0, .inr (.inr (some (2200, 0)))), (1, .inr (.inr (some (11, 0)))), (2, .inr (.inr (some (12, 0)))), (3, .inl x3)], [.inl (x3 + (3 : Int32)), .inr (.inr (some (2200, 0))), .inl (xs (nx (x3 + (2 : Int32)))), .inl (xs (nx (x3 + (1 : Int32)))), .inr (.inr (some (12, 0))), .inl r12], _)) (b := true) (by decide +kernel) rfl rfl ?_
    obtain ⟨hg15, h⟩ := zgd_inv h
    refine c_sld Z hX hg15 (by decide +kernel) ?_
    refine zif_eq Z (off := 7) (tgt := 307) (by decide +kernel) (by decide) (fun hb16 => ?_) (fun hb16 => ?_)
    · replace h := zite_t h hb16
      refine zblq Z rfl [(.iconst 0, 1)] (S' := (308, [(0, .inr (.inr (some (2200, 0)))), (1, .inr (.inr (some (11, 0)))), (2, .inr (.inr (some (12, 0)))), (3, .inl x3)], [.inl (0 : Int32), .inl (xs (nx (x3 + (2 : Int32)))), .inl (xs (nx (x3 + (1 : Int32)))), .inr (.inr (some (12, 0))), .inl r12], _)) (b := true) (by decide +kernel) rfl rfl ?_
      obtain ⟨r17, MR17, hc17, h⟩ := zbd_inv h
      refine lw_callR hW Z (as := [.inl (xs (nx (x3 + (1 : Int32)))), .inl (xs (nx (x3 + (2 : Int32)))), .inl (0 : Int32)]) (st := [.inl r12]) (m12_hears_met (zGR_ok hW) rfl hc17) cwL_22 m12_hears_in m12_hears_se rfl ⟨by exact Nat.le_of_ble_eq_true rfl, by exact Nat.le_of_ble_eq_true rfl⟩ rfl (by decide +kernel) hnk ?_
      refine zic_eq Z (off := 1358) (tgt := 1669) (by decide +kernel) (by decide) (fun hb18 => ?_) (fun hb18 => ?_)
      · replace h := zite_t h hb18
        cases h
        exact K
      · replace h := zite_f h hb18
        cases h
    · replace h := zite_f h hb16
      refine zblq Z rfl [(.iconst 1, 1), (.ldc 308, 3)] (S' := (308, [(0, .inr (.inr (some (2200, 0)))), (1, .inr (.inr (some (11, 0)))), (2, .inr (.inr (some (12, 0)))), (3, .inl x3)], [.inl (1 : Int32), .inl (xs (nx (x3 + (2 : Int32)))), .inl (xs (nx (x3 + (1 : Int32)))), .inr (.inr (some (12, 0))), .inl r12], _)) (b := true) (by decide +kernel) rfl rfl ?_
      obtain ⟨r19, MR19, hc19, h⟩ := zbd_inv h
      refine lw_callR hW Z (as := [.inl (xs (nx (x3 + (1 : Int32)))), .inl (xs (nx (x3 + (2 : Int32)))), .inl (1 : Int32)]) (st := [.inl r12]) (m12_hears_met (zGR_ok hW) rfl hc19) cwL_22 m12_hears_in m12_hears_se rfl ⟨by exact Nat.le_of_ble_eq_true rfl, by exact Nat.le_of_ble_eq_true rfl⟩ rfl (by decide +kernel) hnk ?_
      refine zic_eq Z (off := 1358) (tgt := 1669) (by decide +kernel) (by decide) (fun hb20 => ?_) (fun hb20 => ?_)
      · replace h := zite_t h hb20
        cases h
        exact K
      · replace h := zite_f h hb20
        cases h
  · replace h := zite_f h hb11
    refine zblq Z rfl [(.iconst 1, 1), (.ldc 281, 3)] (S' := (281, [(0, .inr (.inr (some (2200, 0)))), (1, .inr (.inr (some (11, 0)))), (2, .inr (.inr (some (12, 0)))), (3, .inl x3)], [.inl (1 : Int32), .inl (xs (nx (x3 + (2 : Int32)))), .inl (xs (nx (x3 + (1 : Int32)))), .inr (.inr (some (11, 0)))], _)) (b := true) (by decide +kernel) rfl rfl ?_
    obtain ⟨r21, MC21, hc21, h⟩ := zbd_inv h
    refine lw_callC hW Z (as := [.inl (xs (nx (x3 + (1 : Int32)))), .inl (xs (nx (x3 + (2 : Int32)))), .inl (1 : Int32)]) (st := []) (m11_hears_met (zGC_ok hW) rfl hc21) cwL_18 m11_hears_in m11_hears_se rfl ⟨by exact Nat.le_of_ble_eq_true rfl, by exact Nat.le_of_ble_eq_true rfl⟩ rfl (by decide +kernel) hnk ?_
    refine zblq Z rfl [(.aload 2, 1), (.aload 0, 1), (.iload 3, 1), (.iconst 1, 1), (.iadd, 1)] (S' := (289, [(0, .inr (.inr (some (2200, 0)))), (1, .inr (.inr (some (11, 0)))), (2, .inr (.inr (some (12, 0)))), (3, .inl x3)], [.inl (x3 + (1 : Int32)), .inr (.inr (some (2200, 0))), .inr (.inr (some (12, 0))), .inl r21], _)) (b := true) (by decide +kernel) rfl rfl ?_
    obtain ⟨hg22, h⟩ := zgd_inv h
    refine c_sld Z hX hg22 (by decide +kernel) ?_
    refine zblq Z rfl [(.aload 0, 1), (.iload 3, 1), (.iconst 2, 1), (.iadd, 1)] (S' := (294, [(0, .inr (.inr (some (2200, 0)))), (1, .inr (.inr (some (11, 0)))), (2, .inr (.inr (some (12, 0)))), (3, .inl x3)], [.inl (x3 + (2 : Int32)), .inr (.inr (some (2200, 0))), .inl (xs (nx (x3 + (1 : Int32)))), .inr (.inr (some (12, 0))), .inl r21], _)) (b := true) (by decide +kernel) rfl rfl ?_
    obtain ⟨hg23, h⟩ := zgd_inv h
    refine c_sld Z hX hg23 (by decide +kernel) ?_
    refine zblq Z rfl [(.aload 0, 1), (.iload 3, 1), (.iconst 3, 1), (.iadd, 1)] (S' := (299, [(0, .inr (.inr (some (2200, 0)))), (1, .inr (.inr (some (11, 0)))), (2, .inr (.inr (some (12, 0)))), (3, .inl x3)], [.inl (x3 + (3 : Int32)), .inr (.inr (some (2200, 0))), .inl (xs (nx (x3 + (2 : Int32)))), .inl (xs (nx (x3 + (1 : Int32)))), .inr (.inr (some (12, 0))), .inl r21], _)) (b := true) (by decide +kernel) rfl rfl ?_
    obtain ⟨hg24, h⟩ := zgd_inv h
    refine c_sld Z hX hg24 (by decide +kernel) ?_
    refine zif_eq Z (off := 7) (tgt := 307) (by decide +kernel) (by decide) (fun hb25 => ?_) (fun hb25 => ?_)
    · replace h := zite_t h hb25
      refine zblq Z rfl [(.iconst 0, 1)] (S' := (308, [(0, .inr (.inr (some (2200, 0)))), (1, .inr (.inr (some (11, 0)))), (2, .inr (.inr (some (12, 0)))), (3, .inl x3)], [.inl (0 : Int32), .inl (xs (nx (x3 + (2 : Int32)))), .inl (xs (nx (x3 + (1 : Int32)))), .inr (.inr (some (12, 0))), .inl r21], _)) (b := true) (by decide +kernel) rfl rfl ?_
      obtain ⟨r26, MR26, hc26, h⟩ := zbd_inv h
      refine lw_callR hW Z (as := [.inl (xs (nx (x3 + (1 : Int32)))), .inl (xs (nx (x3 + (2 : Int32)))), .inl (0 : Int32)]) (st := [.inl r21]) (m12_hears_met (zGR_ok hW) rfl hc26) cwL_22 m12_hears_in m12_hears_se rfl ⟨by exact Nat.le_of_ble_eq_true rfl, by exact Nat.le_of_ble_eq_true rfl⟩ rfl (by decide +kernel) hnk ?_
      refine zic_eq Z (off := 1358) (tgt := 1669) (by decide +kernel) (by decide) (fun hb27 => ?_) (fun hb27 => ?_)
      · replace h := zite_t h hb27
        cases h
        exact K
      · replace h := zite_f h hb27
        cases h
    · replace h := zite_f h hb25
      refine zblq Z rfl [(.iconst 1, 1), (.ldc 308, 3)] (S' := (308, [(0, .inr (.inr (some (2200, 0)))), (1, .inr (.inr (some (11, 0)))), (2, .inr (.inr (some (12, 0)))), (3, .inl x3)], [.inl (1 : Int32), .inl (xs (nx (x3 + (2 : Int32)))), .inl (xs (nx (x3 + (1 : Int32)))), .inr (.inr (some (12, 0))), .inl r21], _)) (b := true) (by decide +kernel) rfl rfl ?_
      obtain ⟨r28, MR28, hc28, h⟩ := zbd_inv h
      refine lw_callR hW Z (as := [.inl (xs (nx (x3 + (1 : Int32)))), .inl (xs (nx (x3 + (2 : Int32)))), .inl (1 : Int32)]) (st := [.inl r21]) (m12_hears_met (zGR_ok hW) rfl hc28) cwL_22 m12_hears_in m12_hears_se rfl ⟨by exact Nat.le_of_ble_eq_true rfl, by exact Nat.le_of_ble_eq_true rfl⟩ rfl (by decide +kernel) hnk ?_
      refine zic_eq Z (off := 1358) (tgt := 1669) (by decide +kernel) (by decide) (fun hb29 => ?_) (fun hb29 => ?_)
      · replace h := zite_t h hb29
        cases h
        exact K
      · replace h := zite_f h hb29
        cases h
def mL_2 (L : Nat) (xs : Nat → Int32) (x3 : Int32) (MC : cM) (MR : rM) : Option (cM × rM) := zgd (zin (x3 + (1 : Int32)) L) (zgd (zin (x3 + (2 : Int32)) L) (zgd (zin (x3 + (3 : Int32)) L) (zbd (m11_sleep (xs (nx (x3 + (1 : Int32)))) (xs (nx (x3 + (2 : Int32)))) (xs (nx (x3 + (3 : Int32)))) MC) (fun r33 MC33 => zgd (zin (x3 + (1 : Int32)) L) (zgd (zin (x3 + (2 : Int32)) L) (zgd (zin (x3 + (3 : Int32)) L) (zbd (m12_sleep (xs (nx (x3 + (1 : Int32)))) (xs (nx (x3 + (2 : Int32)))) (xs (nx (x3 + (3 : Int32)))) MR) (fun r37 MR37 => (if r33 = r37 then some (MC33, MR37) else none)))))))))
set_option maxHeartbeats 4000000 in
theorem mL_2_ok {p : Program} {l : Launch} {e : Env} {s : State} {m : MethodId} {args : Array Value} {below : List Frame} {meth : Method} {c : Code} {Q : State → Prop} {D : va_G} {ad : zR → Nat} {ca : Nat → ClassId} {A : Nat → Prop} {base n k : Nat} {L : Nat} {xs : Nat → Int32} {x3 : Int32} {MC MC' : cM} {MR MR' : rM} (hW : zWh zUA base ad A) (Z : zOK (zCm p l e room_1 s m args below meth c Q code 4 R_law tbL (zGL D ad ca A))) (hX : va_X (ad (2200, 0)) L xs s s.heap ∧ ad (2200, 0) < s.heap.size ∧ ¬ A (ad (2200, 0))) (hnk : n ≤ room_1.cells ∧ k ≤ room_1.slots) (h : mL_2 L xs x3 MC MR = some (MC', MR')) (K : zGo (zCm p l e room_1 s m args below meth c Q code 4 R_law tbL (zGL D ad ca A)) n k (1669, [(0, .inr (.inr (some (2200, 0)))), (1, .inr (.inr (some (11, 0)))), (2, .inr (.inr (some (12, 0)))), (3, .inl x3)], [], zmix MC' MR')) : zGo (zCm p l e room_1 s m args below meth c Q code 4 R_law tbL (zGL D ad ca A)) n k (316, [(0, .inr (.inr (some (2200, 0)))), (1, .inr (.inr (some (11, 0)))), (2, .inr (.inr (some (12, 0)))), (3, .inl x3)], [], zmix MC MR) := by
  unfold mL_2 at h
  refine zblq Z rfl [(.aload 1, 1), (.aload 0, 1), (.iload 3, 1), (.iconst 1, 1), (.iadd, 1)] (S' := (321, [(0, .inr (.inr (some (2200, 0)))), (1, .inr (.inr (some (11, 0)))), (2, .inr (.inr (some (12, 0)))), (3, .inl x3)], [.inl (x3 + (1 : Int32)), .inr (.inr (some (2200, 0))), .inr (.inr (some (11, 0)))], _)) (b := true) (by decide +kernel) rfl rfl ?_
  obtain ⟨hg30, h⟩ := zgd_inv h
  refine c_sld Z hX hg30 (by decide +kernel) ?_
  refine zblq Z rfl [(.aload 0, 1), (.iload 3, 1), (.iconst 2, 1), (.iadd, 1)] (S' := (326, [(0, .inr (.inr (some (2200, 0)))), (1, .inr (.inr (some (11, 0)))), (2, .inr (.inr (some (12, 0)))), (3, .inl x3)], [.inl (x3 + (2 : Int32)), .inr (.inr (some (2200, 0))), .inl (xs (nx (x3 + (1 : Int32)))), .inr (.inr (some (11, 0)))], _)) (b := true) (by decide +kernel) rfl rfl ?_
  obtain ⟨hg31, h⟩ := zgd_inv h
  refine c_sld Z hX hg31 (by decide +kernel) ?_
  refine zblq Z rfl [(.aload 0, 1), (.iload 3, 1), (.iconst 3, 1), (.iadd, 1)] (S' := (331, [(0, .inr (.inr (some (2200, 0)))), (1, .inr (.inr (some (11, 0)))), (2, .inr (.inr (some (12, 0)))), (3, .inl x3)], [.inl (x3 + (3 : Int32)), .inr (.inr (some (2200, 0))), .inl (xs (nx (x3 + (2 : Int32)))), .inl (xs (nx (x3 + (1 : Int32)))), .inr (.inr (some (11, 0)))], _)) (b := true) (by decide +kernel) rfl rfl ?_
  obtain ⟨hg32, h⟩ := zgd_inv h
  refine c_sld Z hX hg32 (by decide +kernel) ?_
  obtain ⟨r33, MC33, hc33, h⟩ := zbd_inv h
  refine lw_callC hW Z (as := [.inl (xs (nx (x3 + (1 : Int32)))), .inl (xs (nx (x3 + (2 : Int32)))), .inl (xs (nx (x3 + (3 : Int32))))]) (st := []) (m11_sleep_met (zGC_ok hW) rfl hc33) cwL_23 m11_sleep_in m11_sleep_se rfl ⟨by exact Nat.le_of_ble_eq_true rfl, by exact Nat.le_of_ble_eq_true rfl⟩ rfl (by decide +kernel) hnk ?_
  refine zblq Z rfl [(.aload 2, 1), (.aload 0, 1), (.iload 3, 1), (.iconst 1, 1), (.iadd, 1)] (S' := (340, [(0, .inr (.inr (some (2200, 0)))), (1, .inr (.inr (some (11, 0)))), (2, .inr (.inr (some (12, 0)))), (3, .inl x3)], [.inl (x3 + (1 : Int32)), .inr (.inr (some (2200, 0))), .inr (.inr (some (12, 0))), .inl r33], _)) (b := true) (by decide +kernel) rfl rfl ?_
  obtain ⟨hg34, h⟩ := zgd_inv h
  refine c_sld Z hX hg34 (by decide +kernel) ?_
  refine zblq Z rfl [(.aload 0, 1), (.iload 3, 1), (.iconst 2, 1), (.iadd, 1)] (S' := (345, [(0, .inr (.inr (some (2200, 0)))), (1, .inr (.inr (some (11, 0)))), (2, .inr (.inr (some (12, 0)))), (3, .inl x3)], [.inl (x3 + (2 : Int32)), .inr (.inr (some (2200, 0))), .inl (xs (nx (x3 + (1 : Int32)))), .inr (.inr (some (12, 0))), .inl r33], _)) (b := true) (by decide +kernel) rfl rfl ?_
  obtain ⟨hg35, h⟩ := zgd_inv h
  refine c_sld Z hX hg35 (by decide +kernel) ?_
  refine zblq Z rfl [(.aload 0, 1), (.iload 3, 1), (.iconst 3, 1), (.iadd, 1)] (S' := (350, [(0, .inr (.inr (some (2200, 0)))), (1, .inr (.inr (some (11, 0)))), (2, .inr (.inr (some (12, 0)))), (3, .inl x3)], [.inl (x3 + (3 : Int32)), .inr (.inr (some (2200, 0))), .inl (xs (nx (x3 + (2 : Int32)))), .inl (xs (nx (x3 + (1 : Int32)))), .inr (.inr (some (12, 0))), .inl r33], _)) (b := true) (by decide +kernel) rfl rfl ?_
  obtain ⟨hg36, h⟩ := zgd_inv h
  refine c_sld Z hX hg36 (by decide +kernel) ?_
  obtain ⟨r37, MR37, hc37, h⟩ := zbd_inv h
  refine lw_callR hW Z (as := [.inl (xs (nx (x3 + (1 : Int32)))), .inl (xs (nx (x3 + (2 : Int32)))), .inl (xs (nx (x3 + (3 : Int32))))]) (st := [.inl r33]) (m12_sleep_met (zGR_ok hW) rfl hc37) cwL_27 m12_sleep_in m12_sleep_se rfl ⟨by exact Nat.le_of_ble_eq_true rfl, by exact Nat.le_of_ble_eq_true rfl⟩ rfl (by decide +kernel) hnk ?_
  refine zic_eq Z (off := 1315) (tgt := 1669) (by decide +kernel) (by decide) (fun hb38 => ?_) (fun hb38 => ?_)
  · replace h := zite_t h hb38
    cases h
    exact K
  · replace h := zite_f h hb38
    cases h
def mL_3 (L : Nat) (xs : Nat → Int32) (x3 : Int32) (MC : cM) (MR : rM) : Option (cM × rM) := zgd (zin (x3 + (1 : Int32)) L) (zgd (zin (x3 + (2 : Int32)) L) (zgd (zin (x3 + (3 : Int32)) L) (zbd (m11_clock (xs (nx (x3 + (1 : Int32)))) (xs (nx (x3 + (2 : Int32)))) (xs (nx (x3 + (3 : Int32)))) MC) (fun r42 MC42 => zgd (zin (x3 + (1 : Int32)) L) (zgd (zin (x3 + (2 : Int32)) L) (zgd (zin (x3 + (3 : Int32)) L) (zbd (m12_clock (xs (nx (x3 + (1 : Int32)))) (xs (nx (x3 + (2 : Int32)))) (xs (nx (x3 + (3 : Int32)))) MR) (fun r46 MR46 => (if r42 = r46 then some (MC42, MR46) else none)))))))))
set_option maxHeartbeats 4000000 in
theorem mL_3_ok {p : Program} {l : Launch} {e : Env} {s : State} {m : MethodId} {args : Array Value} {below : List Frame} {meth : Method} {c : Code} {Q : State → Prop} {D : va_G} {ad : zR → Nat} {ca : Nat → ClassId} {A : Nat → Prop} {base n k : Nat} {L : Nat} {xs : Nat → Int32} {x3 : Int32} {MC MC' : cM} {MR MR' : rM} (hW : zWh zUA base ad A) (Z : zOK (zCm p l e room_1 s m args below meth c Q code 4 R_law tbL (zGL D ad ca A))) (hX : va_X (ad (2200, 0)) L xs s s.heap ∧ ad (2200, 0) < s.heap.size ∧ ¬ A (ad (2200, 0))) (hnk : n ≤ room_1.cells ∧ k ≤ room_1.slots) (h : mL_3 L xs x3 MC MR = some (MC', MR')) (K : zGo (zCm p l e room_1 s m args below meth c Q code 4 R_law tbL (zGL D ad ca A)) n k (1669, [(0, .inr (.inr (some (2200, 0)))), (1, .inr (.inr (some (11, 0)))), (2, .inr (.inr (some (12, 0)))), (3, .inl x3)], [], zmix MC' MR')) : zGo (zCm p l e room_1 s m args below meth c Q code 4 R_law tbL (zGL D ad ca A)) n k (359, [(0, .inr (.inr (some (2200, 0)))), (1, .inr (.inr (some (11, 0)))), (2, .inr (.inr (some (12, 0)))), (3, .inl x3)], [], zmix MC MR) := by
  unfold mL_3 at h
  refine zblq Z rfl [(.aload 1, 1), (.aload 0, 1), (.iload 3, 1), (.iconst 1, 1), (.iadd, 1)] (S' := (364, [(0, .inr (.inr (some (2200, 0)))), (1, .inr (.inr (some (11, 0)))), (2, .inr (.inr (some (12, 0)))), (3, .inl x3)], [.inl (x3 + (1 : Int32)), .inr (.inr (some (2200, 0))), .inr (.inr (some (11, 0)))], _)) (b := true) (by decide +kernel) rfl rfl ?_
  obtain ⟨hg39, h⟩ := zgd_inv h
  refine c_sld Z hX hg39 (by decide +kernel) ?_
  refine zblq Z rfl [(.aload 0, 1), (.iload 3, 1), (.iconst 2, 1), (.iadd, 1)] (S' := (369, [(0, .inr (.inr (some (2200, 0)))), (1, .inr (.inr (some (11, 0)))), (2, .inr (.inr (some (12, 0)))), (3, .inl x3)], [.inl (x3 + (2 : Int32)), .inr (.inr (some (2200, 0))), .inl (xs (nx (x3 + (1 : Int32)))), .inr (.inr (some (11, 0)))], _)) (b := true) (by decide +kernel) rfl rfl ?_
  obtain ⟨hg40, h⟩ := zgd_inv h
  refine c_sld Z hX hg40 (by decide +kernel) ?_
  refine zblq Z rfl [(.aload 0, 1), (.iload 3, 1), (.iconst 3, 1), (.iadd, 1)] (S' := (374, [(0, .inr (.inr (some (2200, 0)))), (1, .inr (.inr (some (11, 0)))), (2, .inr (.inr (some (12, 0)))), (3, .inl x3)], [.inl (x3 + (3 : Int32)), .inr (.inr (some (2200, 0))), .inl (xs (nx (x3 + (2 : Int32)))), .inl (xs (nx (x3 + (1 : Int32)))), .inr (.inr (some (11, 0)))], _)) (b := true) (by decide +kernel) rfl rfl ?_
  obtain ⟨hg41, h⟩ := zgd_inv h
  refine c_sld Z hX hg41 (by decide +kernel) ?_
  obtain ⟨r42, MC42, hc42, h⟩ := zbd_inv h
  refine lw_callC hW Z (as := [.inl (xs (nx (x3 + (1 : Int32)))), .inl (xs (nx (x3 + (2 : Int32)))), .inl (xs (nx (x3 + (3 : Int32))))]) (st := []) (m11_clock_met (zGC_ok hW) rfl hc42) cwL_28 m11_clock_in m11_clock_se rfl ⟨by exact Nat.le_of_ble_eq_true rfl, by exact Nat.le_of_ble_eq_true rfl⟩ rfl (by decide +kernel) hnk ?_
  refine zblq Z rfl [(.aload 2, 1), (.aload 0, 1), (.iload 3, 1), (.iconst 1, 1), (.iadd, 1)] (S' := (383, [(0, .inr (.inr (some (2200, 0)))), (1, .inr (.inr (some (11, 0)))), (2, .inr (.inr (some (12, 0)))), (3, .inl x3)], [.inl (x3 + (1 : Int32)), .inr (.inr (some (2200, 0))), .inr (.inr (some (12, 0))), .inl r42], _)) (b := true) (by decide +kernel) rfl rfl ?_
  obtain ⟨hg43, h⟩ := zgd_inv h
  refine c_sld Z hX hg43 (by decide +kernel) ?_
  refine zblq Z rfl [(.aload 0, 1), (.iload 3, 1), (.iconst 2, 1), (.iadd, 1)] (S' := (388, [(0, .inr (.inr (some (2200, 0)))), (1, .inr (.inr (some (11, 0)))), (2, .inr (.inr (some (12, 0)))), (3, .inl x3)], [.inl (x3 + (2 : Int32)), .inr (.inr (some (2200, 0))), .inl (xs (nx (x3 + (1 : Int32)))), .inr (.inr (some (12, 0))), .inl r42], _)) (b := true) (by decide +kernel) rfl rfl ?_
  obtain ⟨hg44, h⟩ := zgd_inv h
  refine c_sld Z hX hg44 (by decide +kernel) ?_
  refine zblq Z rfl [(.aload 0, 1), (.iload 3, 1), (.iconst 3, 1), (.iadd, 1)] (S' := (393, [(0, .inr (.inr (some (2200, 0)))), (1, .inr (.inr (some (11, 0)))), (2, .inr (.inr (some (12, 0)))), (3, .inl x3)], [.inl (x3 + (3 : Int32)), .inr (.inr (some (2200, 0))), .inl (xs (nx (x3 + (2 : Int32)))), .inl (xs (nx (x3 + (1 : Int32)))), .inr (.inr (some (12, 0))), .inl r42], _)) (b := true) (by decide +kernel) rfl rfl ?_
  obtain ⟨hg45, h⟩ := zgd_inv h
  refine c_sld Z hX hg45 (by decide +kernel) ?_
  obtain ⟨r46, MR46, hc46, h⟩ := zbd_inv h
  refine lw_callR hW Z (as := [.inl (xs (nx (x3 + (1 : Int32)))), .inl (xs (nx (x3 + (2 : Int32)))), .inl (xs (nx (x3 + (3 : Int32))))]) (st := [.inl r42]) (m12_clock_met (zGR_ok hW) rfl hc46) cwL_31 m12_clock_in m12_clock_se rfl ⟨by exact Nat.le_of_ble_eq_true rfl, by exact Nat.le_of_ble_eq_true rfl⟩ rfl (by decide +kernel) hnk ?_
  refine zic_eq Z (off := 1272) (tgt := 1669) (by decide +kernel) (by decide) (fun hb47 => ?_) (fun hb47 => ?_)
  · replace h := zite_t h hb47
    cases h
    exact K
  · replace h := zite_f h hb47
    cases h
