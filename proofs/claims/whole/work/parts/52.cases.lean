def mL_0 (L : Nat) (xs : Nat → Int32) (x3 : Int32) (MC : cM) (MR : rM) : Option (cM × rM) := zgd (zin (x3 + (1 : Int32)) L) (zgd (zin (x3 + (2 : Int32)) L) (zbd (m11_box (xs (nx (x3 + (1 : Int32)))) (xs (nx (x3 + (2 : Int32)))) MC) (fun r3 MC3 => zgd (zin (x3 + (1 : Int32)) L) (zgd (zin (x3 + (2 : Int32)) L) (zbd (m12_box (xs (nx (x3 + (1 : Int32)))) (xs (nx (x3 + (2 : Int32)))) MR) (fun r6 MR6 => (if r3 = r6 then some (MC3, MR6) else none)))))))
set_option maxHeartbeats 4000000 in
theorem mL_0_ok {p : Program} {l : Launch} {e : Env} {s : State} {m : MethodId} {args : Array Value} {below : List Frame} {meth : Method} {c : Code} {Q : State → Prop} {D : va_G} {ad : zR → Nat} {ca : Nat → ClassId} {A : Nat → Prop} {base n k : Nat} {L : Nat} {xs : Nat → Int32} {x3 : Int32} {MC MC' : cM} {MR MR' : rM} (hW : zWh zUA base ad A) (Z : zOK (zCm p l e room_1 s m args below meth c Q code 4 R_law tbL (zGL D ad ca A))) (hX : va_X (ad (2200, 0)) L xs s s.heap ∧ ad (2200, 0) < s.heap.size ∧ ¬ A (ad (2200, 0))) (hnk : n ≤ room_1.cells ∧ k ≤ room_1.slots) (h : mL_0 L xs x3 MC MR = some (MC', MR')) (K : zGo (zCm p l e room_1 s m args below meth c Q code 4 R_law tbL (zGL D ad ca A)) n k (1669, [(0, .inr (.inr (some (2200, 0)))), (1, .inr (.inr (some (11, 0)))), (2, .inr (.inr (some (12, 0)))), (3, .inl x3)], [], zmix MC' MR')) : zGo (zCm p l e room_1 s m args below meth c Q code 4 R_law tbL (zGL D ad ca A)) n k (224, [(0, .inr (.inr (some (2200, 0)))), (1, .inr (.inr (some (11, 0)))), (2, .inr (.inr (some (12, 0)))), (3, .inl x3)], [], zmix MC MR) := by
  unfold mL_0 at h
  refine zblq Z rfl [(.aload 1, 1), (.aload 0, 1), (.iload 3, 1), (.iconst 1, 1), (.iadd, 1)] (S' := (229, [(0, .inr (.inr (some (2200, 0)))), (1, .inr (.inr (some (11, 0)))), (2, .inr (.inr (some (12, 0)))), (3, .inl x3)], [.inl (x3 + (1 : Int32)), .inr (.inr (some (2200, 0))), .inr (.inr (some (11, 0)))], zmix MC MR)) (b := true) (by decide +kernel) rfl rfl ?_
  obtain ⟨hg1, h⟩ := zgd_inv h
  refine c_sld Z hX hg1 (by decide +kernel) ?_
  refine zblq Z rfl [(.aload 0, 1), (.iload 3, 1), (.iconst 2, 1), (.iadd, 1)] (S' := (234, [(0, .inr (.inr (some (2200, 0)))), (1, .inr (.inr (some (11, 0)))), (2, .inr (.inr (some (12, 0)))), (3, .inl x3)], [.inl (x3 + (2 : Int32)), .inr (.inr (some (2200, 0))), .inl (xs (nx (x3 + (1 : Int32)))), .inr (.inr (some (11, 0)))], zmix MC MR)) (b := true) (by decide +kernel) rfl rfl ?_
  obtain ⟨hg2, h⟩ := zgd_inv h
  refine c_sld Z hX hg2 (by decide +kernel) ?_
  obtain ⟨r3, MC3, hc3, h⟩ := zbd_inv h
  refine lw_callC hW Z (as := [.inl (xs (nx (x3 + (1 : Int32)))), .inl (xs (nx (x3 + (2 : Int32))))]) (st := []) (m11_box_met (zGC_ok hW) rfl hc3) cwL_13 m11_box_in m11_box_se rfl ⟨by exact Nat.le_of_ble_eq_true rfl, by exact Nat.le_of_ble_eq_true rfl⟩ rfl (by decide +kernel) hnk ?_
  refine zblq Z rfl [(.aload 2, 1), (.aload 0, 1), (.iload 3, 1), (.iconst 1, 1), (.iadd, 1)] (S' := (243, [(0, .inr (.inr (some (2200, 0)))), (1, .inr (.inr (some (11, 0)))), (2, .inr (.inr (some (12, 0)))), (3, .inl x3)], [.inl (x3 + (1 : Int32)), .inr (.inr (some (2200, 0))), .inr (.inr (some (12, 0))), .inl r3], zmix MC3 MR)) (b := true) (by decide +kernel) rfl rfl ?_
  obtain ⟨hg4, h⟩ := zgd_inv h
  refine c_sld Z hX hg4 (by decide +kernel) ?_
  refine zblq Z rfl [(.aload 0, 1), (.iload 3, 1), (.iconst 2, 1), (.iadd, 1)] (S' := (248, [(0, .inr (.inr (some (2200, 0)))), (1, .inr (.inr (some (11, 0)))), (2, .inr (.inr (some (12, 0)))), (3, .inl x3)], [.inl (x3 + (2 : Int32)), .inr (.inr (some (2200, 0))), .inl (xs (nx (x3 + (1 : Int32)))), .inr (.inr (some (12, 0))), .inl r3], zmix MC3 MR)) (b := true) (by decide +kernel) rfl rfl ?_
  obtain ⟨hg5, h⟩ := zgd_inv h
  refine c_sld Z hX hg5 (by decide +kernel) ?_
  obtain ⟨r6, MR6, hc6, h⟩ := zbd_inv h
  refine lw_callR hW Z (as := [.inl (xs (nx (x3 + (1 : Int32)))), .inl (xs (nx (x3 + (2 : Int32))))]) (st := [.inl r3]) (m12_box_met (zGR_ok hW) rfl hc6) cwL_17 m12_box_in m12_box_se rfl ⟨by exact Nat.le_of_ble_eq_true rfl, by exact Nat.le_of_ble_eq_true rfl⟩ rfl (by decide +kernel) hnk ?_
  refine zic_eq Z (off := 1417) (tgt := 1669) (by decide +kernel) (by decide) (fun hb7 => ?_) (fun hb7 => ?_)
  · replace h := zite_t h hb7
    cases h
    exact K
  · replace h := zite_f h hb7
    cases h
def mL_1 (L : Nat) (xs : Nat → Int32) (x3 : Int32) (MC : cM) (MR : rM) : Option (cM × rM) := zgd (zin (x3 + (1 : Int32)) L) (zgd (zin (x3 + (2 : Int32)) L) (zgd (zin (x3 + (3 : Int32)) L) ((if (xs (nx (x3 + (3 : Int32)))) = 0 then zbd (m11_hears (xs (nx (x3 + (1 : Int32)))) (xs (nx (x3 + (2 : Int32)))) (0 : Int32) MC) (fun r12 MC12 => zgd (zin (x3 + (1 : Int32)) L) (zgd (zin (x3 + (2 : Int32)) L) (zgd (zin (x3 + (3 : Int32)) L) ((if (xs (nx (x3 + (3 : Int32)))) = 0 then zbd (m12_hears (xs (nx (x3 + (1 : Int32)))) (xs (nx (x3 + (2 : Int32)))) (0 : Int32) MR) (fun r17 MR17 => (if r12 = r17 then some (MC12, MR17) else none)) else zbd (m12_hears (xs (nx (x3 + (1 : Int32)))) (xs (nx (x3 + (2 : Int32)))) (1 : Int32) MR) (fun r19 MR19 => (if r12 = r19 then some (MC12, MR19) else none))))))) else zbd (m11_hears (xs (nx (x3 + (1 : Int32)))) (xs (nx (x3 + (2 : Int32)))) (1 : Int32) MC) (fun r21 MC21 => zgd (zin (x3 + (1 : Int32)) L) (zgd (zin (x3 + (2 : Int32)) L) (zgd (zin (x3 + (3 : Int32)) L) ((if (xs (nx (x3 + (3 : Int32)))) = 0 then zbd (m12_hears (xs (nx (x3 + (1 : Int32)))) (xs (nx (x3 + (2 : Int32)))) (0 : Int32) MR) (fun r26 MR26 => (if r21 = r26 then some (MC21, MR26) else none)) else zbd (m12_hears (xs (nx (x3 + (1 : Int32)))) (xs (nx (x3 + (2 : Int32)))) (1 : Int32) MR) (fun r28 MR28 => (if r21 = r28 then some (MC21, MR28) else none)))))))))))
set_option maxHeartbeats 4000000 in
theorem mL_1_ok {p : Program} {l : Launch} {e : Env} {s : State} {m : MethodId} {args : Array Value} {below : List Frame} {meth : Method} {c : Code} {Q : State → Prop} {D : va_G} {ad : zR → Nat} {ca : Nat → ClassId} {A : Nat → Prop} {base n k : Nat} {L : Nat} {xs : Nat → Int32} {x3 : Int32} {MC MC' : cM} {MR MR' : rM} (hW : zWh zUA base ad A) (Z : zOK (zCm p l e room_1 s m args below meth c Q code 4 R_law tbL (zGL D ad ca A))) (hX : va_X (ad (2200, 0)) L xs s s.heap ∧ ad (2200, 0) < s.heap.size ∧ ¬ A (ad (2200, 0))) (hnk : n ≤ room_1.cells ∧ k ≤ room_1.slots) (h : mL_1 L xs x3 MC MR = some (MC', MR')) (K : zGo (zCm p l e room_1 s m args below meth c Q code 4 R_law tbL (zGL D ad ca A)) n k (1669, [(0, .inr (.inr (some (2200, 0)))), (1, .inr (.inr (some (11, 0)))), (2, .inr (.inr (some (12, 0)))), (3, .inl x3)], [], zmix MC' MR')) : zGo (zCm p l e room_1 s m args below meth c Q code 4 R_law tbL (zGL D ad ca A)) n k (257, [(0, .inr (.inr (some (2200, 0)))), (1, .inr (.inr (some (11, 0)))), (2, .inr (.inr (some (12, 0)))), (3, .inl x3)], [], zmix MC MR) := by
  unfold mL_1 at h
  refine zblq Z rfl [(.aload 1, 1), (.aload 0, 1), (.iload 3, 1), (.iconst 1, 1), (.iadd, 1)] (S' := (262, [(0, .inr (.inr (some (2200, 0)))), (1, .inr (.inr (some (11, 0)))), (2, .inr (.inr (some (12, 0)))), (3, .inl x3)], [.inl (x3 + (1 : Int32)), .inr (.inr (some (2200, 0))), .inr (.inr (some (11, 0)))], zmix MC MR)) (b := true) (by decide +kernel) rfl rfl ?_
  obtain ⟨hg8, h⟩ := zgd_inv h
  refine c_sld Z hX hg8 (by decide +kernel) ?_
  refine zblq Z rfl [(.aload 0, 1), (.iload 3, 1), (.iconst 2, 1), (.iadd, 1)] (S' := (267, [(0, .inr (.inr (some (2200, 0)))), (1, .inr (.inr (some (11, 0)))), (2, .inr (.inr (some (12, 0)))), (3, .inl x3)], [.inl (x3 + (2 : Int32)), .inr (.inr (some (2200, 0))), .inl (xs (nx (x3 + (1 : Int32)))), .inr (.inr (some (11, 0)))], zmix MC MR)) (b := true) (by decide +kernel) rfl rfl ?_
  obtain ⟨hg9, h⟩ := zgd_inv h
  refine c_sld Z hX hg9 (by decide +kernel) ?_
  refine zblq Z rfl [(.aload 0, 1), (.iload 3, 1), (.iconst 3, 1), (.iadd, 1)] (S' := (272, [(0, .inr (.inr (some (2200, 0)))), (1, .inr (.inr (some (11, 0)))), (2, .inr (.inr (some (12, 0)))), (3, .inl x3)], [.inl (x3 + (3 : Int32)), .inr (.inr (some (2200, 0))), .inl (xs (nx (x3 + (2 : Int32)))), .inl (xs (nx (x3 + (1 : Int32)))), .inr (.inr (some (11, 0)))], zmix MC MR)) (b := true) (by decide +kernel) rfl rfl ?_
  obtain ⟨hg10, h⟩ := zgd_inv h
  refine c_sld Z hX hg10 (by decide +kernel) ?_
  refine zif_eq Z (off := 7) (tgt := 280) (by decide +kernel) (by decide) (fun hb11 => ?_) (fun hb11 => ?_)
  · replace h := zite_t h hb11
    refine zblq Z rfl [(.iconst 0, 1)] (S' := (281, [(0, .inr (.inr (some (2200, 0)))), (1, .inr (.inr (some (11, 0)))), (2, .inr (.inr (some (12, 0)))), (3, .inl x3)], [.inl (0 : Int32), .inl (xs (nx (x3 + (2 : Int32)))), .inl (xs (nx (x3 + (1 : Int32)))), .inr (.inr (some (11, 0)))], zmix MC MR)) (b := true) (by decide +kernel) rfl rfl ?_
    obtain ⟨r12, MC12, hc12, h⟩ := zbd_inv h
    refine lw_callC hW Z (as := [.inl (xs (nx (x3 + (1 : Int32)))), .inl (xs (nx (x3 + (2 : Int32)))), .inl (0 : Int32)]) (st := []) (m11_hears_met (zGC_ok hW) rfl hc12) cwL_18 m11_hears_in m11_hears_se rfl ⟨by exact Nat.le_of_ble_eq_true rfl, by exact Nat.le_of_ble_eq_true rfl⟩ rfl (by decide +kernel) hnk ?_
    refine zblq Z rfl [(.aload 2, 1), (.aload 0, 1), (.iload 3, 1), (.iconst 1, 1), (.iadd, 1)] (S' := (289, [(0, .inr (.inr (some (2200, 0)))), (1, .inr (.inr (some (11, 0)))), (2, .inr (.inr (some (12, 0)))), (3, .inl x3)], [.inl (x3 + (1 : Int32)), .inr (.inr (some (2200, 0))), .inr (.inr (some (12, 0))), .inl r12], zmix MC12 MR)) (b := true) (by decide +kernel) rfl rfl ?_
    obtain ⟨hg13, h⟩ := zgd_inv h
    refine c_sld Z hX hg13 (by decide +kernel) ?_
    refine zblq Z rfl [(.aload 0, 1), (.iload 3, 1), (.iconst 2, 1), (.iadd, 1)] (S' := (294, [(0, .inr (.inr (some (2200, 0)))), (1, .inr (.inr (some (11, 0)))), (2, .inr (.inr (some (12, 0)))), (3, .inl x3)], [.inl (x3 + (2 : Int32)), .inr (.inr (some (2200, 0))), .inl (xs (nx (x3 + (1 : Int32)))), .inr (.inr (some (12, 0))), .inl r12], zmix MC12 MR)) (b := true) (by decide +kernel) rfl rfl ?_
    obtain ⟨hg14, h⟩ := zgd_inv h
    refine c_sld Z hX hg14 (by decide +kernel) ?_
    refine zblq Z rfl [(.aload 0, 1), (.iload 3, 1), (.iconst 3, 1), (.iadd, 1)] (S' := (299, [(0, .inr (.inr (some (2200, 0)))), (1, .inr (.inr (some (11, 0)))), (2, .inr (.inr (some (12, 0)))), (3, .inl x3)], [.inl (x3 + (3 : Int32)), .inr (.inr (some (2200, 0))), .inl (xs (nx (x3 + (2 : Int32)))), .inl (xs (nx (x3 + (1 : Int32)))), .inr (.inr (some (12, 0))), .inl r12], zmix MC12 MR)) (b := true) (by decide +kernel) rfl rfl ?_
    obtain ⟨hg15, h⟩ := zgd_inv h
    refine c_sld Z hX hg15 (by decide +kernel) ?_
    refine zif_eq Z (off := 7) (tgt := 307) (by decide +kernel) (by decide) (fun hb16 => ?_) (fun hb16 => ?_)
    · replace h := zite_t h hb16
      refine zblq Z rfl [(.iconst 0, 1)] (S' := (308, [(0, .inr (.inr (some (2200, 0)))), (1, .inr (.inr (some (11, 0)))), (2, .inr (.inr (some (12, 0)))), (3, .inl x3)], [.inl (0 : Int32), .inl (xs (nx (x3 + (2 : Int32)))), .inl (xs (nx (x3 + (1 : Int32)))), .inr (.inr (some (12, 0))), .inl r12], zmix MC12 MR)) (b := true) (by decide +kernel) rfl rfl ?_
      obtain ⟨r17, MR17, hc17, h⟩ := zbd_inv h
      refine lw_callR hW Z (as := [.inl (xs (nx (x3 + (1 : Int32)))), .inl (xs (nx (x3 + (2 : Int32)))), .inl (0 : Int32)]) (st := [.inl r12]) (m12_hears_met (zGR_ok hW) rfl hc17) cwL_22 m12_hears_in m12_hears_se rfl ⟨by exact Nat.le_of_ble_eq_true rfl, by exact Nat.le_of_ble_eq_true rfl⟩ rfl (by decide +kernel) hnk ?_
      refine zic_eq Z (off := 1358) (tgt := 1669) (by decide +kernel) (by decide) (fun hb18 => ?_) (fun hb18 => ?_)
      · replace h := zite_t h hb18
        cases h
        exact K
      · replace h := zite_f h hb18
        cases h
    · replace h := zite_f h hb16
      refine zblq Z rfl [(.iconst 1, 1), (.ldc 308, 3)] (S' := (308, [(0, .inr (.inr (some (2200, 0)))), (1, .inr (.inr (some (11, 0)))), (2, .inr (.inr (some (12, 0)))), (3, .inl x3)], [.inl (1 : Int32), .inl (xs (nx (x3 + (2 : Int32)))), .inl (xs (nx (x3 + (1 : Int32)))), .inr (.inr (some (12, 0))), .inl r12], zmix MC12 MR)) (b := true) (by decide +kernel) rfl rfl ?_
      obtain ⟨r19, MR19, hc19, h⟩ := zbd_inv h
      refine lw_callR hW Z (as := [.inl (xs (nx (x3 + (1 : Int32)))), .inl (xs (nx (x3 + (2 : Int32)))), .inl (1 : Int32)]) (st := [.inl r12]) (m12_hears_met (zGR_ok hW) rfl hc19) cwL_22 m12_hears_in m12_hears_se rfl ⟨by exact Nat.le_of_ble_eq_true rfl, by exact Nat.le_of_ble_eq_true rfl⟩ rfl (by decide +kernel) hnk ?_
      refine zic_eq Z (off := 1358) (tgt := 1669) (by decide +kernel) (by decide) (fun hb20 => ?_) (fun hb20 => ?_)
      · replace h := zite_t h hb20
        cases h
        exact K
      · replace h := zite_f h hb20
        cases h
  · replace h := zite_f h hb11
    refine zblq Z rfl [(.iconst 1, 1), (.ldc 281, 3)] (S' := (281, [(0, .inr (.inr (some (2200, 0)))), (1, .inr (.inr (some (11, 0)))), (2, .inr (.inr (some (12, 0)))), (3, .inl x3)], [.inl (1 : Int32), .inl (xs (nx (x3 + (2 : Int32)))), .inl (xs (nx (x3 + (1 : Int32)))), .inr (.inr (some (11, 0)))], zmix MC MR)) (b := true) (by decide +kernel) rfl rfl ?_
    obtain ⟨r21, MC21, hc21, h⟩ := zbd_inv h
    refine lw_callC hW Z (as := [.inl (xs (nx (x3 + (1 : Int32)))), .inl (xs (nx (x3 + (2 : Int32)))), .inl (1 : Int32)]) (st := []) (m11_hears_met (zGC_ok hW) rfl hc21) cwL_18 m11_hears_in m11_hears_se rfl ⟨by exact Nat.le_of_ble_eq_true rfl, by exact Nat.le_of_ble_eq_true rfl⟩ rfl (by decide +kernel) hnk ?_
    refine zblq Z rfl [(.aload 2, 1), (.aload 0, 1), (.iload 3, 1), (.iconst 1, 1), (.iadd, 1)] (S' := (289, [(0, .inr (.inr (some (2200, 0)))), (1, .inr (.inr (some (11, 0)))), (2, .inr (.inr (some (12, 0)))), (3, .inl x3)], [.inl (x3 + (1 : Int32)), .inr (.inr (some (2200, 0))), .inr (.inr (some (12, 0))), .inl r21], zmix MC21 MR)) (b := true) (by decide +kernel) rfl rfl ?_
    obtain ⟨hg22, h⟩ := zgd_inv h
    refine c_sld Z hX hg22 (by decide +kernel) ?_
    refine zblq Z rfl [(.aload 0, 1), (.iload 3, 1), (.iconst 2, 1), (.iadd, 1)] (S' := (294, [(0, .inr (.inr (some (2200, 0)))), (1, .inr (.inr (some (11, 0)))), (2, .inr (.inr (some (12, 0)))), (3, .inl x3)], [.inl (x3 + (2 : Int32)), .inr (.inr (some (2200, 0))), .inl (xs (nx (x3 + (1 : Int32)))), .inr (.inr (some (12, 0))), .inl r21], zmix MC21 MR)) (b := true) (by decide +kernel) rfl rfl ?_
    obtain ⟨hg23, h⟩ := zgd_inv h
    refine c_sld Z hX hg23 (by decide +kernel) ?_
    refine zblq Z rfl [(.aload 0, 1), (.iload 3, 1), (.iconst 3, 1), (.iadd, 1)] (S' := (299, [(0, .inr (.inr (some (2200, 0)))), (1, .inr (.inr (some (11, 0)))), (2, .inr (.inr (some (12, 0)))), (3, .inl x3)], [.inl (x3 + (3 : Int32)), .inr (.inr (some (2200, 0))), .inl (xs (nx (x3 + (2 : Int32)))), .inl (xs (nx (x3 + (1 : Int32)))), .inr (.inr (some (12, 0))), .inl r21], zmix MC21 MR)) (b := true) (by decide +kernel) rfl rfl ?_
    obtain ⟨hg24, h⟩ := zgd_inv h
    refine c_sld Z hX hg24 (by decide +kernel) ?_
    refine zif_eq Z (off := 7) (tgt := 307) (by decide +kernel) (by decide) (fun hb25 => ?_) (fun hb25 => ?_)
    · replace h := zite_t h hb25
      refine zblq Z rfl [(.iconst 0, 1)] (S' := (308, [(0, .inr (.inr (some (2200, 0)))), (1, .inr (.inr (some (11, 0)))), (2, .inr (.inr (some (12, 0)))), (3, .inl x3)], [.inl (0 : Int32), .inl (xs (nx (x3 + (2 : Int32)))), .inl (xs (nx (x3 + (1 : Int32)))), .inr (.inr (some (12, 0))), .inl r21], zmix MC21 MR)) (b := true) (by decide +kernel) rfl rfl ?_
      obtain ⟨r26, MR26, hc26, h⟩ := zbd_inv h
      refine lw_callR hW Z (as := [.inl (xs (nx (x3 + (1 : Int32)))), .inl (xs (nx (x3 + (2 : Int32)))), .inl (0 : Int32)]) (st := [.inl r21]) (m12_hears_met (zGR_ok hW) rfl hc26) cwL_22 m12_hears_in m12_hears_se rfl ⟨by exact Nat.le_of_ble_eq_true rfl, by exact Nat.le_of_ble_eq_true rfl⟩ rfl (by decide +kernel) hnk ?_
      refine zic_eq Z (off := 1358) (tgt := 1669) (by decide +kernel) (by decide) (fun hb27 => ?_) (fun hb27 => ?_)
      · replace h := zite_t h hb27
        cases h
        exact K
      · replace h := zite_f h hb27
        cases h
    · replace h := zite_f h hb25
      refine zblq Z rfl [(.iconst 1, 1), (.ldc 308, 3)] (S' := (308, [(0, .inr (.inr (some (2200, 0)))), (1, .inr (.inr (some (11, 0)))), (2, .inr (.inr (some (12, 0)))), (3, .inl x3)], [.inl (1 : Int32), .inl (xs (nx (x3 + (2 : Int32)))), .inl (xs (nx (x3 + (1 : Int32)))), .inr (.inr (some (12, 0))), .inl r21], zmix MC21 MR)) (b := true) (by decide +kernel) rfl rfl ?_
      obtain ⟨r28, MR28, hc28, h⟩ := zbd_inv h
      refine lw_callR hW Z (as := [.inl (xs (nx (x3 + (1 : Int32)))), .inl (xs (nx (x3 + (2 : Int32)))), .inl (1 : Int32)]) (st := [.inl r21]) (m12_hears_met (zGR_ok hW) rfl hc28) cwL_22 m12_hears_in m12_hears_se rfl ⟨by exact Nat.le_of_ble_eq_true rfl, by exact Nat.le_of_ble_eq_true rfl⟩ rfl (by decide +kernel) hnk ?_
      refine zic_eq Z (off := 1358) (tgt := 1669) (by decide +kernel) (by decide) (fun hb29 => ?_) (fun hb29 => ?_)
      · replace h := zite_t h hb29
        cases h
        exact K
      · replace h := zite_f h hb29
        cases h
def mL_2 (L : Nat) (xs : Nat → Int32) (x3 : Int32) (MC : cM) (MR : rM) : Option (cM × rM) := zgd (zin (x3 + (1 : Int32)) L) (zgd (zin (x3 + (2 : Int32)) L) (zgd (zin (x3 + (3 : Int32)) L) (zbd (m11_sleep (xs (nx (x3 + (1 : Int32)))) (xs (nx (x3 + (2 : Int32)))) (xs (nx (x3 + (3 : Int32)))) MC) (fun r33 MC33 => zgd (zin (x3 + (1 : Int32)) L) (zgd (zin (x3 + (2 : Int32)) L) (zgd (zin (x3 + (3 : Int32)) L) (zbd (m12_sleep (xs (nx (x3 + (1 : Int32)))) (xs (nx (x3 + (2 : Int32)))) (xs (nx (x3 + (3 : Int32)))) MR) (fun r37 MR37 => (if r33 = r37 then some (MC33, MR37) else none)))))))))
set_option maxHeartbeats 4000000 in
theorem mL_2_ok {p : Program} {l : Launch} {e : Env} {s : State} {m : MethodId} {args : Array Value} {below : List Frame} {meth : Method} {c : Code} {Q : State → Prop} {D : va_G} {ad : zR → Nat} {ca : Nat → ClassId} {A : Nat → Prop} {base n k : Nat} {L : Nat} {xs : Nat → Int32} {x3 : Int32} {MC MC' : cM} {MR MR' : rM} (hW : zWh zUA base ad A) (Z : zOK (zCm p l e room_1 s m args below meth c Q code 4 R_law tbL (zGL D ad ca A))) (hX : va_X (ad (2200, 0)) L xs s s.heap ∧ ad (2200, 0) < s.heap.size ∧ ¬ A (ad (2200, 0))) (hnk : n ≤ room_1.cells ∧ k ≤ room_1.slots) (h : mL_2 L xs x3 MC MR = some (MC', MR')) (K : zGo (zCm p l e room_1 s m args below meth c Q code 4 R_law tbL (zGL D ad ca A)) n k (1669, [(0, .inr (.inr (some (2200, 0)))), (1, .inr (.inr (some (11, 0)))), (2, .inr (.inr (some (12, 0)))), (3, .inl x3)], [], zmix MC' MR')) : zGo (zCm p l e room_1 s m args below meth c Q code 4 R_law tbL (zGL D ad ca A)) n k (316, [(0, .inr (.inr (some (2200, 0)))), (1, .inr (.inr (some (11, 0)))), (2, .inr (.inr (some (12, 0)))), (3, .inl x3)], [], zmix MC MR) := by
  unfold mL_2 at h
  refine zblq Z rfl [(.aload 1, 1), (.aload 0, 1), (.iload 3, 1), (.iconst 1, 1), (.iadd, 1)] (S' := (321, [(0, .inr (.inr (some (2200, 0)))), (1, .inr (.inr (some (11, 0)))), (2, .inr (.inr (some (12, 0)))), (3, .inl x3)], [.inl (x3 + (1 : Int32)), .inr (.inr (some (2200, 0))), .inr (.inr (some (11, 0)))], zmix MC MR)) (b := true) (by decide +kernel) rfl rfl ?_
  obtain ⟨hg30, h⟩ := zgd_inv h
  refine c_sld Z hX hg30 (by decide +kernel) ?_
  refine zblq Z rfl [(.aload 0, 1), (.iload 3, 1), (.iconst 2, 1), (.iadd, 1)] (S' := (326, [(0, .inr (.inr (some (2200, 0)))), (1, .inr (.inr (some (11, 0)))), (2, .inr (.inr (some (12, 0)))), (3, .inl x3)], [.inl (x3 + (2 : Int32)), .inr (.inr (some (2200, 0))), .inl (xs (nx (x3 + (1 : Int32)))), .inr (.inr (some (11, 0)))], zmix MC MR)) (b := true) (by decide +kernel) rfl rfl ?_
  obtain ⟨hg31, h⟩ := zgd_inv h
  refine c_sld Z hX hg31 (by decide +kernel) ?_
  refine zblq Z rfl [(.aload 0, 1), (.iload 3, 1), (.iconst 3, 1), (.iadd, 1)] (S' := (331, [(0, .inr (.inr (some (2200, 0)))), (1, .inr (.inr (some (11, 0)))), (2, .inr (.inr (some (12, 0)))), (3, .inl x3)], [.inl (x3 + (3 : Int32)), .inr (.inr (some (2200, 0))), .inl (xs (nx (x3 + (2 : Int32)))), .inl (xs (nx (x3 + (1 : Int32)))), .inr (.inr (some (11, 0)))], zmix MC MR)) (b := true) (by decide +kernel) rfl rfl ?_
  obtain ⟨hg32, h⟩ := zgd_inv h
  refine c_sld Z hX hg32 (by decide +kernel) ?_
  obtain ⟨r33, MC33, hc33, h⟩ := zbd_inv h
  refine lw_callC hW Z (as := [.inl (xs (nx (x3 + (1 : Int32)))), .inl (xs (nx (x3 + (2 : Int32)))), .inl (xs (nx (x3 + (3 : Int32))))]) (st := []) (m11_sleep_met (zGC_ok hW) rfl hc33) cwL_23 m11_sleep_in m11_sleep_se rfl ⟨by exact Nat.le_of_ble_eq_true rfl, by exact Nat.le_of_ble_eq_true rfl⟩ rfl (by decide +kernel) hnk ?_
  refine zblq Z rfl [(.aload 2, 1), (.aload 0, 1), (.iload 3, 1), (.iconst 1, 1), (.iadd, 1)] (S' := (340, [(0, .inr (.inr (some (2200, 0)))), (1, .inr (.inr (some (11, 0)))), (2, .inr (.inr (some (12, 0)))), (3, .inl x3)], [.inl (x3 + (1 : Int32)), .inr (.inr (some (2200, 0))), .inr (.inr (some (12, 0))), .inl r33], zmix MC33 MR)) (b := true) (by decide +kernel) rfl rfl ?_
  obtain ⟨hg34, h⟩ := zgd_inv h
  refine c_sld Z hX hg34 (by decide +kernel) ?_
  refine zblq Z rfl [(.aload 0, 1), (.iload 3, 1), (.iconst 2, 1), (.iadd, 1)] (S' := (345, [(0, .inr (.inr (some (2200, 0)))), (1, .inr (.inr (some (11, 0)))), (2, .inr (.inr (some (12, 0)))), (3, .inl x3)], [.inl (x3 + (2 : Int32)), .inr (.inr (some (2200, 0))), .inl (xs (nx (x3 + (1 : Int32)))), .inr (.inr (some (12, 0))), .inl r33], zmix MC33 MR)) (b := true) (by decide +kernel) rfl rfl ?_
  obtain ⟨hg35, h⟩ := zgd_inv h
  refine c_sld Z hX hg35 (by decide +kernel) ?_
  refine zblq Z rfl [(.aload 0, 1), (.iload 3, 1), (.iconst 3, 1), (.iadd, 1)] (S' := (350, [(0, .inr (.inr (some (2200, 0)))), (1, .inr (.inr (some (11, 0)))), (2, .inr (.inr (some (12, 0)))), (3, .inl x3)], [.inl (x3 + (3 : Int32)), .inr (.inr (some (2200, 0))), .inl (xs (nx (x3 + (2 : Int32)))), .inl (xs (nx (x3 + (1 : Int32)))), .inr (.inr (some (12, 0))), .inl r33], zmix MC33 MR)) (b := true) (by decide +kernel) rfl rfl ?_
  obtain ⟨hg36, h⟩ := zgd_inv h
  refine c_sld Z hX hg36 (by decide +kernel) ?_
  obtain ⟨r37, MR37, hc37, h⟩ := zbd_inv h
  refine lw_callR hW Z (as := [.inl (xs (nx (x3 + (1 : Int32)))), .inl (xs (nx (x3 + (2 : Int32)))), .inl (xs (nx (x3 + (3 : Int32))))]) (st := [.inl r33]) (m12_sleep_met (zGR_ok hW) rfl hc37) cwL_27 m12_sleep_in m12_sleep_se rfl ⟨by exact Nat.le_of_ble_eq_true rfl, by exact Nat.le_of_ble_eq_true rfl⟩ rfl (by decide +kernel) hnk ?_
  refine zic_eq Z (off := 1315) (tgt := 1669) (by decide +kernel) (by decide) (fun hb38 => ?_) (fun hb38 => ?_)
  · replace h := zite_t h hb38
    cases h
    exact K
  · replace h := zite_f h hb38
    cases h
def mL_3 (L : Nat) (xs : Nat → Int32) (x3 : Int32) (MC : cM) (MR : rM) : Option (cM × rM) := zgd (zin (x3 + (1 : Int32)) L) (zgd (zin (x3 + (2 : Int32)) L) (zgd (zin (x3 + (3 : Int32)) L) (zbd (m11_clock (xs (nx (x3 + (1 : Int32)))) (xs (nx (x3 + (2 : Int32)))) (xs (nx (x3 + (3 : Int32)))) MC) (fun r42 MC42 => zgd (zin (x3 + (1 : Int32)) L) (zgd (zin (x3 + (2 : Int32)) L) (zgd (zin (x3 + (3 : Int32)) L) (zbd (m12_clock (xs (nx (x3 + (1 : Int32)))) (xs (nx (x3 + (2 : Int32)))) (xs (nx (x3 + (3 : Int32)))) MR) (fun r46 MR46 => (if r42 = r46 then some (MC42, MR46) else none)))))))))
set_option maxHeartbeats 4000000 in
theorem mL_3_ok {p : Program} {l : Launch} {e : Env} {s : State} {m : MethodId} {args : Array Value} {below : List Frame} {meth : Method} {c : Code} {Q : State → Prop} {D : va_G} {ad : zR → Nat} {ca : Nat → ClassId} {A : Nat → Prop} {base n k : Nat} {L : Nat} {xs : Nat → Int32} {x3 : Int32} {MC MC' : cM} {MR MR' : rM} (hW : zWh zUA base ad A) (Z : zOK (zCm p l e room_1 s m args below meth c Q code 4 R_law tbL (zGL D ad ca A))) (hX : va_X (ad (2200, 0)) L xs s s.heap ∧ ad (2200, 0) < s.heap.size ∧ ¬ A (ad (2200, 0))) (hnk : n ≤ room_1.cells ∧ k ≤ room_1.slots) (h : mL_3 L xs x3 MC MR = some (MC', MR')) (K : zGo (zCm p l e room_1 s m args below meth c Q code 4 R_law tbL (zGL D ad ca A)) n k (1669, [(0, .inr (.inr (some (2200, 0)))), (1, .inr (.inr (some (11, 0)))), (2, .inr (.inr (some (12, 0)))), (3, .inl x3)], [], zmix MC' MR')) : zGo (zCm p l e room_1 s m args below meth c Q code 4 R_law tbL (zGL D ad ca A)) n k (359, [(0, .inr (.inr (some (2200, 0)))), (1, .inr (.inr (some (11, 0)))), (2, .inr (.inr (some (12, 0)))), (3, .inl x3)], [], zmix MC MR) := by
  unfold mL_3 at h
  refine zblq Z rfl [(.aload 1, 1), (.aload 0, 1), (.iload 3, 1), (.iconst 1, 1), (.iadd, 1)] (S' := (364, [(0, .inr (.inr (some (2200, 0)))), (1, .inr (.inr (some (11, 0)))), (2, .inr (.inr (some (12, 0)))), (3, .inl x3)], [.inl (x3 + (1 : Int32)), .inr (.inr (some (2200, 0))), .inr (.inr (some (11, 0)))], zmix MC MR)) (b := true) (by decide +kernel) rfl rfl ?_
  obtain ⟨hg39, h⟩ := zgd_inv h
  refine c_sld Z hX hg39 (by decide +kernel) ?_
  refine zblq Z rfl [(.aload 0, 1), (.iload 3, 1), (.iconst 2, 1), (.iadd, 1)] (S' := (369, [(0, .inr (.inr (some (2200, 0)))), (1, .inr (.inr (some (11, 0)))), (2, .inr (.inr (some (12, 0)))), (3, .inl x3)], [.inl (x3 + (2 : Int32)), .inr (.inr (some (2200, 0))), .inl (xs (nx (x3 + (1 : Int32)))), .inr (.inr (some (11, 0)))], zmix MC MR)) (b := true) (by decide +kernel) rfl rfl ?_
  obtain ⟨hg40, h⟩ := zgd_inv h
  refine c_sld Z hX hg40 (by decide +kernel) ?_
  refine zblq Z rfl [(.aload 0, 1), (.iload 3, 1), (.iconst 3, 1), (.iadd, 1)] (S' := (374, [(0, .inr (.inr (some (2200, 0)))), (1, .inr (.inr (some (11, 0)))), (2, .inr (.inr (some (12, 0)))), (3, .inl x3)], [.inl (x3 + (3 : Int32)), .inr (.inr (some (2200, 0))), .inl (xs (nx (x3 + (2 : Int32)))), .inl (xs (nx (x3 + (1 : Int32)))), .inr (.inr (some (11, 0)))], zmix MC MR)) (b := true) (by decide +kernel) rfl rfl ?_
  obtain ⟨hg41, h⟩ := zgd_inv h
  refine c_sld Z hX hg41 (by decide +kernel) ?_
  obtain ⟨r42, MC42, hc42, h⟩ := zbd_inv h
  refine lw_callC hW Z (as := [.inl (xs (nx (x3 + (1 : Int32)))), .inl (xs (nx (x3 + (2 : Int32)))), .inl (xs (nx (x3 + (3 : Int32))))]) (st := []) (m11_clock_met (zGC_ok hW) rfl hc42) cwL_28 m11_clock_in m11_clock_se rfl ⟨by exact Nat.le_of_ble_eq_true rfl, by exact Nat.le_of_ble_eq_true rfl⟩ rfl (by decide +kernel) hnk ?_
  refine zblq Z rfl [(.aload 2, 1), (.aload 0, 1), (.iload 3, 1), (.iconst 1, 1), (.iadd, 1)] (S' := (383, [(0, .inr (.inr (some (2200, 0)))), (1, .inr (.inr (some (11, 0)))), (2, .inr (.inr (some (12, 0)))), (3, .inl x3)], [.inl (x3 + (1 : Int32)), .inr (.inr (some (2200, 0))), .inr (.inr (some (12, 0))), .inl r42], zmix MC42 MR)) (b := true) (by decide +kernel) rfl rfl ?_
  obtain ⟨hg43, h⟩ := zgd_inv h
  refine c_sld Z hX hg43 (by decide +kernel) ?_
  refine zblq Z rfl [(.aload 0, 1), (.iload 3, 1), (.iconst 2, 1), (.iadd, 1)] (S' := (388, [(0, .inr (.inr (some (2200, 0)))), (1, .inr (.inr (some (11, 0)))), (2, .inr (.inr (some (12, 0)))), (3, .inl x3)], [.inl (x3 + (2 : Int32)), .inr (.inr (some (2200, 0))), .inl (xs (nx (x3 + (1 : Int32)))), .inr (.inr (some (12, 0))), .inl r42], zmix MC42 MR)) (b := true) (by decide +kernel) rfl rfl ?_
  obtain ⟨hg44, h⟩ := zgd_inv h
  refine c_sld Z hX hg44 (by decide +kernel) ?_
  refine zblq Z rfl [(.aload 0, 1), (.iload 3, 1), (.iconst 3, 1), (.iadd, 1)] (S' := (393, [(0, .inr (.inr (some (2200, 0)))), (1, .inr (.inr (some (11, 0)))), (2, .inr (.inr (some (12, 0)))), (3, .inl x3)], [.inl (x3 + (3 : Int32)), .inr (.inr (some (2200, 0))), .inl (xs (nx (x3 + (2 : Int32)))), .inl (xs (nx (x3 + (1 : Int32)))), .inr (.inr (some (12, 0))), .inl r42], zmix MC42 MR)) (b := true) (by decide +kernel) rfl rfl ?_
  obtain ⟨hg45, h⟩ := zgd_inv h
  refine c_sld Z hX hg45 (by decide +kernel) ?_
  obtain ⟨r46, MR46, hc46, h⟩ := zbd_inv h
  refine lw_callR hW Z (as := [.inl (xs (nx (x3 + (1 : Int32)))), .inl (xs (nx (x3 + (2 : Int32)))), .inl (xs (nx (x3 + (3 : Int32))))]) (st := [.inl r42]) (m12_clock_met (zGR_ok hW) rfl hc46) cwL_31 m12_clock_in m12_clock_se rfl ⟨by exact Nat.le_of_ble_eq_true rfl, by exact Nat.le_of_ble_eq_true rfl⟩ rfl (by decide +kernel) hnk ?_
  refine zic_eq Z (off := 1272) (tgt := 1669) (by decide +kernel) (by decide) (fun hb47 => ?_) (fun hb47 => ?_)
  · replace h := zite_t h hb47
    cases h
    exact K
  · replace h := zite_f h hb47
    cases h
def mL_4 (L : Nat) (xs : Nat → Int32) (x3 : Int32) (MC : cM) (MR : rM) : Option (cM × rM) := zgd (zin (x3 + (1 : Int32)) L) (zgd (zin (x3 + (2 : Int32)) L) (zbd (m11_set (xs (nx (x3 + (1 : Int32)))) (xs (nx (x3 + (2 : Int32)))) MC) (fun r50 MC50 => zgd (zin (x3 + (1 : Int32)) L) (zgd (zin (x3 + (2 : Int32)) L) (zbd (m12_set (xs (nx (x3 + (1 : Int32)))) (xs (nx (x3 + (2 : Int32)))) MR) (fun r53 MR53 => (if r50 = r53 then some (MC50, MR53) else none)))))))
set_option maxHeartbeats 4000000 in
theorem mL_4_ok {p : Program} {l : Launch} {e : Env} {s : State} {m : MethodId} {args : Array Value} {below : List Frame} {meth : Method} {c : Code} {Q : State → Prop} {D : va_G} {ad : zR → Nat} {ca : Nat → ClassId} {A : Nat → Prop} {base n k : Nat} {L : Nat} {xs : Nat → Int32} {x3 : Int32} {MC MC' : cM} {MR MR' : rM} (hW : zWh zUA base ad A) (Z : zOK (zCm p l e room_1 s m args below meth c Q code 4 R_law tbL (zGL D ad ca A))) (hX : va_X (ad (2200, 0)) L xs s s.heap ∧ ad (2200, 0) < s.heap.size ∧ ¬ A (ad (2200, 0))) (hnk : n ≤ room_1.cells ∧ k ≤ room_1.slots) (h : mL_4 L xs x3 MC MR = some (MC', MR')) (K : zGo (zCm p l e room_1 s m args below meth c Q code 4 R_law tbL (zGL D ad ca A)) n k (1669, [(0, .inr (.inr (some (2200, 0)))), (1, .inr (.inr (some (11, 0)))), (2, .inr (.inr (some (12, 0)))), (3, .inl x3)], [], zmix MC' MR')) : zGo (zCm p l e room_1 s m args below meth c Q code 4 R_law tbL (zGL D ad ca A)) n k (402, [(0, .inr (.inr (some (2200, 0)))), (1, .inr (.inr (some (11, 0)))), (2, .inr (.inr (some (12, 0)))), (3, .inl x3)], [], zmix MC MR) := by
  unfold mL_4 at h
  refine zblq Z rfl [(.aload 1, 1), (.aload 0, 1), (.iload 3, 1), (.iconst 1, 1), (.iadd, 1)] (S' := (407, [(0, .inr (.inr (some (2200, 0)))), (1, .inr (.inr (some (11, 0)))), (2, .inr (.inr (some (12, 0)))), (3, .inl x3)], [.inl (x3 + (1 : Int32)), .inr (.inr (some (2200, 0))), .inr (.inr (some (11, 0)))], zmix MC MR)) (b := true) (by decide +kernel) rfl rfl ?_
  obtain ⟨hg48, h⟩ := zgd_inv h
  refine c_sld Z hX hg48 (by decide +kernel) ?_
  refine zblq Z rfl [(.aload 0, 1), (.iload 3, 1), (.iconst 2, 1), (.iadd, 1)] (S' := (412, [(0, .inr (.inr (some (2200, 0)))), (1, .inr (.inr (some (11, 0)))), (2, .inr (.inr (some (12, 0)))), (3, .inl x3)], [.inl (x3 + (2 : Int32)), .inr (.inr (some (2200, 0))), .inl (xs (nx (x3 + (1 : Int32)))), .inr (.inr (some (11, 0)))], zmix MC MR)) (b := true) (by decide +kernel) rfl rfl ?_
  obtain ⟨hg49, h⟩ := zgd_inv h
  refine c_sld Z hX hg49 (by decide +kernel) ?_
  obtain ⟨r50, MC50, hc50, h⟩ := zbd_inv h
  refine lw_callC hW Z (as := [.inl (xs (nx (x3 + (1 : Int32)))), .inl (xs (nx (x3 + (2 : Int32))))]) (st := []) (m11_set_met (zGC_ok hW) rfl hc50) cwL_32 m11_set_in m11_set_se rfl ⟨by exact Nat.le_of_ble_eq_true rfl, by exact Nat.le_of_ble_eq_true rfl⟩ rfl (by decide +kernel) hnk ?_
  refine zblq Z rfl [(.aload 2, 1), (.aload 0, 1), (.iload 3, 1), (.iconst 1, 1), (.iadd, 1)] (S' := (421, [(0, .inr (.inr (some (2200, 0)))), (1, .inr (.inr (some (11, 0)))), (2, .inr (.inr (some (12, 0)))), (3, .inl x3)], [.inl (x3 + (1 : Int32)), .inr (.inr (some (2200, 0))), .inr (.inr (some (12, 0))), .inl r50], zmix MC50 MR)) (b := true) (by decide +kernel) rfl rfl ?_
  obtain ⟨hg51, h⟩ := zgd_inv h
  refine c_sld Z hX hg51 (by decide +kernel) ?_
  refine zblq Z rfl [(.aload 0, 1), (.iload 3, 1), (.iconst 2, 1), (.iadd, 1)] (S' := (426, [(0, .inr (.inr (some (2200, 0)))), (1, .inr (.inr (some (11, 0)))), (2, .inr (.inr (some (12, 0)))), (3, .inl x3)], [.inl (x3 + (2 : Int32)), .inr (.inr (some (2200, 0))), .inl (xs (nx (x3 + (1 : Int32)))), .inr (.inr (some (12, 0))), .inl r50], zmix MC50 MR)) (b := true) (by decide +kernel) rfl rfl ?_
  obtain ⟨hg52, h⟩ := zgd_inv h
  refine c_sld Z hX hg52 (by decide +kernel) ?_
  obtain ⟨r53, MR53, hc53, h⟩ := zbd_inv h
  refine lw_callR hW Z (as := [.inl (xs (nx (x3 + (1 : Int32)))), .inl (xs (nx (x3 + (2 : Int32))))]) (st := [.inl r50]) (m12_set_met (zGR_ok hW) rfl hc53) cwL_35 m12_set_in m12_set_se rfl ⟨by exact Nat.le_of_ble_eq_true rfl, by exact Nat.le_of_ble_eq_true rfl⟩ rfl (by decide +kernel) hnk ?_
  refine zic_eq Z (off := 1239) (tgt := 1669) (by decide +kernel) (by decide) (fun hb54 => ?_) (fun hb54 => ?_)
  · replace h := zite_t h hb54
    cases h
    exact K
  · replace h := zite_f h hb54
    cases h
def mL_5 (L : Nat) (xs : Nat → Int32) (x3 : Int32) (MC : cM) (MR : rM) : Option (cM × rM) := zgd (zin (x3 + (1 : Int32)) L) (zgd (zin (x3 + (2 : Int32)) L) (zbd (m11_power (xs (nx (x3 + (1 : Int32)))) (xs (nx (x3 + (2 : Int32)))) MC) (fun r57 MC57 => zgd (zin (x3 + (1 : Int32)) L) (zgd (zin (x3 + (2 : Int32)) L) (zbd (m12_power (xs (nx (x3 + (1 : Int32)))) (xs (nx (x3 + (2 : Int32)))) MR) (fun r60 MR60 => (if r57 = r60 then some (MC57, MR60) else none)))))))
set_option maxHeartbeats 4000000 in
theorem mL_5_ok {p : Program} {l : Launch} {e : Env} {s : State} {m : MethodId} {args : Array Value} {below : List Frame} {meth : Method} {c : Code} {Q : State → Prop} {D : va_G} {ad : zR → Nat} {ca : Nat → ClassId} {A : Nat → Prop} {base n k : Nat} {L : Nat} {xs : Nat → Int32} {x3 : Int32} {MC MC' : cM} {MR MR' : rM} (hW : zWh zUA base ad A) (Z : zOK (zCm p l e room_1 s m args below meth c Q code 4 R_law tbL (zGL D ad ca A))) (hX : va_X (ad (2200, 0)) L xs s s.heap ∧ ad (2200, 0) < s.heap.size ∧ ¬ A (ad (2200, 0))) (hnk : n ≤ room_1.cells ∧ k ≤ room_1.slots) (h : mL_5 L xs x3 MC MR = some (MC', MR')) (K : zGo (zCm p l e room_1 s m args below meth c Q code 4 R_law tbL (zGL D ad ca A)) n k (1669, [(0, .inr (.inr (some (2200, 0)))), (1, .inr (.inr (some (11, 0)))), (2, .inr (.inr (some (12, 0)))), (3, .inl x3)], [], zmix MC' MR')) : zGo (zCm p l e room_1 s m args below meth c Q code 4 R_law tbL (zGL D ad ca A)) n k (435, [(0, .inr (.inr (some (2200, 0)))), (1, .inr (.inr (some (11, 0)))), (2, .inr (.inr (some (12, 0)))), (3, .inl x3)], [], zmix MC MR) := by
  unfold mL_5 at h
  refine zblq Z rfl [(.aload 1, 1), (.aload 0, 1), (.iload 3, 1), (.iconst 1, 1), (.iadd, 1)] (S' := (440, [(0, .inr (.inr (some (2200, 0)))), (1, .inr (.inr (some (11, 0)))), (2, .inr (.inr (some (12, 0)))), (3, .inl x3)], [.inl (x3 + (1 : Int32)), .inr (.inr (some (2200, 0))), .inr (.inr (some (11, 0)))], zmix MC MR)) (b := true) (by decide +kernel) rfl rfl ?_
  obtain ⟨hg55, h⟩ := zgd_inv h
  refine c_sld Z hX hg55 (by decide +kernel) ?_
  refine zblq Z rfl [(.aload 0, 1), (.iload 3, 1), (.iconst 2, 1), (.iadd, 1)] (S' := (445, [(0, .inr (.inr (some (2200, 0)))), (1, .inr (.inr (some (11, 0)))), (2, .inr (.inr (some (12, 0)))), (3, .inl x3)], [.inl (x3 + (2 : Int32)), .inr (.inr (some (2200, 0))), .inl (xs (nx (x3 + (1 : Int32)))), .inr (.inr (some (11, 0)))], zmix MC MR)) (b := true) (by decide +kernel) rfl rfl ?_
  obtain ⟨hg56, h⟩ := zgd_inv h
  refine c_sld Z hX hg56 (by decide +kernel) ?_
  obtain ⟨r57, MC57, hc57, h⟩ := zbd_inv h
  refine lw_callC hW Z (as := [.inl (xs (nx (x3 + (1 : Int32)))), .inl (xs (nx (x3 + (2 : Int32))))]) (st := []) (m11_power_met (zGC_ok hW) rfl hc57) cwL_36 m11_power_in m11_power_se rfl ⟨by exact Nat.le_of_ble_eq_true rfl, by exact Nat.le_of_ble_eq_true rfl⟩ rfl (by decide +kernel) hnk ?_
  refine zblq Z rfl [(.aload 2, 1), (.aload 0, 1), (.iload 3, 1), (.iconst 1, 1), (.iadd, 1)] (S' := (454, [(0, .inr (.inr (some (2200, 0)))), (1, .inr (.inr (some (11, 0)))), (2, .inr (.inr (some (12, 0)))), (3, .inl x3)], [.inl (x3 + (1 : Int32)), .inr (.inr (some (2200, 0))), .inr (.inr (some (12, 0))), .inl r57], zmix MC57 MR)) (b := true) (by decide +kernel) rfl rfl ?_
  obtain ⟨hg58, h⟩ := zgd_inv h
  refine c_sld Z hX hg58 (by decide +kernel) ?_
  refine zblq Z rfl [(.aload 0, 1), (.iload 3, 1), (.iconst 2, 1), (.iadd, 1)] (S' := (459, [(0, .inr (.inr (some (2200, 0)))), (1, .inr (.inr (some (11, 0)))), (2, .inr (.inr (some (12, 0)))), (3, .inl x3)], [.inl (x3 + (2 : Int32)), .inr (.inr (some (2200, 0))), .inl (xs (nx (x3 + (1 : Int32)))), .inr (.inr (some (12, 0))), .inl r57], zmix MC57 MR)) (b := true) (by decide +kernel) rfl rfl ?_
  obtain ⟨hg59, h⟩ := zgd_inv h
  refine c_sld Z hX hg59 (by decide +kernel) ?_
  obtain ⟨r60, MR60, hc60, h⟩ := zbd_inv h
  refine lw_callR hW Z (as := [.inl (xs (nx (x3 + (1 : Int32)))), .inl (xs (nx (x3 + (2 : Int32))))]) (st := [.inl r57]) (m12_power_met (zGR_ok hW) rfl hc60) cwL_39 m12_power_in m12_power_se rfl ⟨by exact Nat.le_of_ble_eq_true rfl, by exact Nat.le_of_ble_eq_true rfl⟩ rfl (by decide +kernel) hnk ?_
  refine zic_eq Z (off := 1206) (tgt := 1669) (by decide +kernel) (by decide) (fun hb61 => ?_) (fun hb61 => ?_)
  · replace h := zite_t h hb61
    cases h
    exact K
  · replace h := zite_f h hb61
    cases h
def mL_6 (L : Nat) (xs : Nat → Int32) (x3 : Int32) (MC : cM) (MR : rM) : Option (cM × rM) := zgd (zin (x3 + (1 : Int32)) L) (zgd (zin (x3 + (2 : Int32)) L) (zbd (m11_at (xs (nx (x3 + (1 : Int32)))) (xs (nx (x3 + (2 : Int32)))) MC) (fun r64 MC64 => zgd (zin (x3 + (1 : Int32)) L) (zgd (zin (x3 + (2 : Int32)) L) (zbd (m12_at (xs (nx (x3 + (1 : Int32)))) (xs (nx (x3 + (2 : Int32)))) MR) (fun r67 MR67 => (if r64 = r67 then some (MC64, MR67) else none)))))))
set_option maxHeartbeats 4000000 in
theorem mL_6_ok {p : Program} {l : Launch} {e : Env} {s : State} {m : MethodId} {args : Array Value} {below : List Frame} {meth : Method} {c : Code} {Q : State → Prop} {D : va_G} {ad : zR → Nat} {ca : Nat → ClassId} {A : Nat → Prop} {base n k : Nat} {L : Nat} {xs : Nat → Int32} {x3 : Int32} {MC MC' : cM} {MR MR' : rM} (hW : zWh zUA base ad A) (Z : zOK (zCm p l e room_1 s m args below meth c Q code 4 R_law tbL (zGL D ad ca A))) (hX : va_X (ad (2200, 0)) L xs s s.heap ∧ ad (2200, 0) < s.heap.size ∧ ¬ A (ad (2200, 0))) (hnk : n ≤ room_1.cells ∧ k ≤ room_1.slots) (h : mL_6 L xs x3 MC MR = some (MC', MR')) (K : zGo (zCm p l e room_1 s m args below meth c Q code 4 R_law tbL (zGL D ad ca A)) n k (1669, [(0, .inr (.inr (some (2200, 0)))), (1, .inr (.inr (some (11, 0)))), (2, .inr (.inr (some (12, 0)))), (3, .inl x3)], [], zmix MC' MR')) : zGo (zCm p l e room_1 s m args below meth c Q code 4 R_law tbL (zGL D ad ca A)) n k (468, [(0, .inr (.inr (some (2200, 0)))), (1, .inr (.inr (some (11, 0)))), (2, .inr (.inr (some (12, 0)))), (3, .inl x3)], [], zmix MC MR) := by
  unfold mL_6 at h
  refine zblq Z rfl [(.aload 1, 1), (.aload 0, 1), (.iload 3, 1), (.iconst 1, 1), (.iadd, 1)] (S' := (473, [(0, .inr (.inr (some (2200, 0)))), (1, .inr (.inr (some (11, 0)))), (2, .inr (.inr (some (12, 0)))), (3, .inl x3)], [.inl (x3 + (1 : Int32)), .inr (.inr (some (2200, 0))), .inr (.inr (some (11, 0)))], zmix MC MR)) (b := true) (by decide +kernel) rfl rfl ?_
  obtain ⟨hg62, h⟩ := zgd_inv h
  refine c_sld Z hX hg62 (by decide +kernel) ?_
  refine zblq Z rfl [(.aload 0, 1), (.iload 3, 1), (.iconst 2, 1), (.iadd, 1)] (S' := (478, [(0, .inr (.inr (some (2200, 0)))), (1, .inr (.inr (some (11, 0)))), (2, .inr (.inr (some (12, 0)))), (3, .inl x3)], [.inl (x3 + (2 : Int32)), .inr (.inr (some (2200, 0))), .inl (xs (nx (x3 + (1 : Int32)))), .inr (.inr (some (11, 0)))], zmix MC MR)) (b := true) (by decide +kernel) rfl rfl ?_
  obtain ⟨hg63, h⟩ := zgd_inv h
  refine c_sld Z hX hg63 (by decide +kernel) ?_
  obtain ⟨r64, MC64, hc64, h⟩ := zbd_inv h
  refine lw_callC hW Z (as := [.inl (xs (nx (x3 + (1 : Int32)))), .inl (xs (nx (x3 + (2 : Int32))))]) (st := []) (m11_at_met (zGC_ok hW) rfl hc64) cwL_40 m11_at_in m11_at_se rfl ⟨by exact Nat.le_of_ble_eq_true rfl, by exact Nat.le_of_ble_eq_true rfl⟩ rfl (by decide +kernel) hnk ?_
  refine zblq Z rfl [(.aload 2, 1), (.aload 0, 1), (.iload 3, 1), (.iconst 1, 1), (.iadd, 1)] (S' := (487, [(0, .inr (.inr (some (2200, 0)))), (1, .inr (.inr (some (11, 0)))), (2, .inr (.inr (some (12, 0)))), (3, .inl x3)], [.inl (x3 + (1 : Int32)), .inr (.inr (some (2200, 0))), .inr (.inr (some (12, 0))), .inl r64], zmix MC64 MR)) (b := true) (by decide +kernel) rfl rfl ?_
  obtain ⟨hg65, h⟩ := zgd_inv h
  refine c_sld Z hX hg65 (by decide +kernel) ?_
  refine zblq Z rfl [(.aload 0, 1), (.iload 3, 1), (.iconst 2, 1), (.iadd, 1)] (S' := (492, [(0, .inr (.inr (some (2200, 0)))), (1, .inr (.inr (some (11, 0)))), (2, .inr (.inr (some (12, 0)))), (3, .inl x3)], [.inl (x3 + (2 : Int32)), .inr (.inr (some (2200, 0))), .inl (xs (nx (x3 + (1 : Int32)))), .inr (.inr (some (12, 0))), .inl r64], zmix MC64 MR)) (b := true) (by decide +kernel) rfl rfl ?_
  obtain ⟨hg66, h⟩ := zgd_inv h
  refine c_sld Z hX hg66 (by decide +kernel) ?_
  obtain ⟨r67, MR67, hc67, h⟩ := zbd_inv h
  refine lw_callR hW Z (as := [.inl (xs (nx (x3 + (1 : Int32)))), .inl (xs (nx (x3 + (2 : Int32))))]) (st := [.inl r64]) (m12_at_met (zGR_ok hW) rfl hc67) cwL_43 m12_at_in m12_at_se rfl ⟨by exact Nat.le_of_ble_eq_true rfl, by exact Nat.le_of_ble_eq_true rfl⟩ rfl (by decide +kernel) hnk ?_
  refine zic_eq Z (off := 1173) (tgt := 1669) (by decide +kernel) (by decide) (fun hb68 => ?_) (fun hb68 => ?_)
  · replace h := zite_t h hb68
    cases h
    exact K
  · replace h := zite_f h hb68
    cases h
def mL_7 (L : Nat) (xs : Nat → Int32) (x3 : Int32) (MC : cM) (MR : rM) : Option (cM × rM) := zgd (zin (x3 + (1 : Int32)) L) (zbd (m11_rounds (xs (nx (x3 + (1 : Int32)))) MC) (fun r70 MC70 => zgd (zin (x3 + (1 : Int32)) L) (zbd (m12_rounds (xs (nx (x3 + (1 : Int32)))) MR) (fun r72 MR72 => (if r70 = r72 then some (MC70, MR72) else none)))))
set_option maxHeartbeats 4000000 in
theorem mL_7_ok {p : Program} {l : Launch} {e : Env} {s : State} {m : MethodId} {args : Array Value} {below : List Frame} {meth : Method} {c : Code} {Q : State → Prop} {D : va_G} {ad : zR → Nat} {ca : Nat → ClassId} {A : Nat → Prop} {base n k : Nat} {L : Nat} {xs : Nat → Int32} {x3 : Int32} {MC MC' : cM} {MR MR' : rM} (hW : zWh zUA base ad A) (Z : zOK (zCm p l e room_1 s m args below meth c Q code 4 R_law tbL (zGL D ad ca A))) (hX : va_X (ad (2200, 0)) L xs s s.heap ∧ ad (2200, 0) < s.heap.size ∧ ¬ A (ad (2200, 0))) (hnk : n ≤ room_1.cells ∧ k ≤ room_1.slots) (h : mL_7 L xs x3 MC MR = some (MC', MR')) (K : zGo (zCm p l e room_1 s m args below meth c Q code 4 R_law tbL (zGL D ad ca A)) n k (1669, [(0, .inr (.inr (some (2200, 0)))), (1, .inr (.inr (some (11, 0)))), (2, .inr (.inr (some (12, 0)))), (3, .inl x3)], [], zmix MC' MR')) : zGo (zCm p l e room_1 s m args below meth c Q code 4 R_law tbL (zGL D ad ca A)) n k (501, [(0, .inr (.inr (some (2200, 0)))), (1, .inr (.inr (some (11, 0)))), (2, .inr (.inr (some (12, 0)))), (3, .inl x3)], [], zmix MC MR) := by
  unfold mL_7 at h
  refine zblq Z rfl [(.aload 1, 1), (.aload 0, 1), (.iload 3, 1), (.iconst 1, 1), (.iadd, 1)] (S' := (506, [(0, .inr (.inr (some (2200, 0)))), (1, .inr (.inr (some (11, 0)))), (2, .inr (.inr (some (12, 0)))), (3, .inl x3)], [.inl (x3 + (1 : Int32)), .inr (.inr (some (2200, 0))), .inr (.inr (some (11, 0)))], zmix MC MR)) (b := true) (by decide +kernel) rfl rfl ?_
  obtain ⟨hg69, h⟩ := zgd_inv h
  refine c_sld Z hX hg69 (by decide +kernel) ?_
  obtain ⟨r70, MC70, hc70, h⟩ := zbd_inv h
  refine lw_callC hW Z (as := [.inl (xs (nx (x3 + (1 : Int32))))]) (st := []) (m11_rounds_met (zGC_ok hW) rfl hc70) cwL_44 m11_rounds_in m11_rounds_se rfl ⟨by exact Nat.le_of_ble_eq_true rfl, by exact Nat.le_of_ble_eq_true rfl⟩ rfl (by decide +kernel) hnk ?_
  refine zblq Z rfl [(.aload 2, 1), (.aload 0, 1), (.iload 3, 1), (.iconst 1, 1), (.iadd, 1)] (S' := (515, [(0, .inr (.inr (some (2200, 0)))), (1, .inr (.inr (some (11, 0)))), (2, .inr (.inr (some (12, 0)))), (3, .inl x3)], [.inl (x3 + (1 : Int32)), .inr (.inr (some (2200, 0))), .inr (.inr (some (12, 0))), .inl r70], zmix MC70 MR)) (b := true) (by decide +kernel) rfl rfl ?_
  obtain ⟨hg71, h⟩ := zgd_inv h
  refine c_sld Z hX hg71 (by decide +kernel) ?_
  obtain ⟨r72, MR72, hc72, h⟩ := zbd_inv h
  refine lw_callR hW Z (as := [.inl (xs (nx (x3 + (1 : Int32))))]) (st := [.inl r70]) (m12_rounds_met (zGR_ok hW) rfl hc72) cwL_48 m12_rounds_in m12_rounds_se rfl ⟨by exact Nat.le_of_ble_eq_true rfl, by exact Nat.le_of_ble_eq_true rfl⟩ rfl (by decide +kernel) hnk ?_
  refine zic_eq Z (off := 1150) (tgt := 1669) (by decide +kernel) (by decide) (fun hb73 => ?_) (fun hb73 => ?_)
  · replace h := zite_t h hb73
    cases h
    exact K
  · replace h := zite_f h hb73
    cases h
def mL_8 (L : Nat) (xs : Nat → Int32) (x3 : Int32) (MC : cM) (MR : rM) : Option (cM × rM) := zbd (m11_rings MC) (fun r74 MC74 => zbd (m12_rings MR) (fun r75 MR75 => (if r74 = r75 then some (MC74, MR75) else none)))
set_option maxHeartbeats 4000000 in
theorem mL_8_ok {p : Program} {l : Launch} {e : Env} {s : State} {m : MethodId} {args : Array Value} {below : List Frame} {meth : Method} {c : Code} {Q : State → Prop} {D : va_G} {ad : zR → Nat} {ca : Nat → ClassId} {A : Nat → Prop} {base n k : Nat} {L : Nat} {xs : Nat → Int32} {x3 : Int32} {MC MC' : cM} {MR MR' : rM} (hW : zWh zUA base ad A) (Z : zOK (zCm p l e room_1 s m args below meth c Q code 4 R_law tbL (zGL D ad ca A))) (hX : va_X (ad (2200, 0)) L xs s s.heap ∧ ad (2200, 0) < s.heap.size ∧ ¬ A (ad (2200, 0))) (hnk : n ≤ room_1.cells ∧ k ≤ room_1.slots) (h : mL_8 L xs x3 MC MR = some (MC', MR')) (K : zGo (zCm p l e room_1 s m args below meth c Q code 4 R_law tbL (zGL D ad ca A)) n k (1669, [(0, .inr (.inr (some (2200, 0)))), (1, .inr (.inr (some (11, 0)))), (2, .inr (.inr (some (12, 0)))), (3, .inl x3)], [], zmix MC' MR')) : zGo (zCm p l e room_1 s m args below meth c Q code 4 R_law tbL (zGL D ad ca A)) n k (524, [(0, .inr (.inr (some (2200, 0)))), (1, .inr (.inr (some (11, 0)))), (2, .inr (.inr (some (12, 0)))), (3, .inl x3)], [], zmix MC MR) := by
  unfold mL_8 at h
  refine zblq Z rfl [(.aload 1, 1)] (S' := (525, [(0, .inr (.inr (some (2200, 0)))), (1, .inr (.inr (some (11, 0)))), (2, .inr (.inr (some (12, 0)))), (3, .inl x3)], [.inr (.inr (some (11, 0)))], zmix MC MR)) (b := true) (by decide +kernel) rfl rfl ?_
  obtain ⟨r74, MC74, hc74, h⟩ := zbd_inv h
  refine lw_callC hW Z (as := []) (st := []) (m11_rings_met (zGC_ok hW) rfl hc74) cwL_49 m11_rings_in m11_rings_se rfl ⟨by exact Nat.le_of_ble_eq_true rfl, by exact Nat.le_of_ble_eq_true rfl⟩ rfl (by decide +kernel) hnk ?_
  refine zblq Z rfl [(.aload 2, 1)] (S' := (529, [(0, .inr (.inr (some (2200, 0)))), (1, .inr (.inr (some (11, 0)))), (2, .inr (.inr (some (12, 0)))), (3, .inl x3)], [.inr (.inr (some (12, 0))), .inl r74], zmix MC74 MR)) (b := true) (by decide +kernel) rfl rfl ?_
  obtain ⟨r75, MR75, hc75, h⟩ := zbd_inv h
  refine lw_callR hW Z (as := []) (st := [.inl r74]) (m12_rings_met (zGR_ok hW) rfl hc75) cwL_53 m12_rings_in m12_rings_se rfl ⟨by exact Nat.le_of_ble_eq_true rfl, by exact Nat.le_of_ble_eq_true rfl⟩ rfl (by decide +kernel) hnk ?_
  refine zic_eq Z (off := 1137) (tgt := 1669) (by decide +kernel) (by decide) (fun hb76 => ?_) (fun hb76 => ?_)
  · replace h := zite_t h hb76
    cases h
    exact K
  · replace h := zite_f h hb76
    cases h
def mL_9 (L : Nat) (xs : Nat → Int32) (x3 : Int32) (MC : cM) (MR : rM) : Option (cM × rM) := zgd (zin (x3 + (1 : Int32)) L) (zgd (zin (x3 + (2 : Int32)) L) (zbd (m11_say (xs (nx (x3 + (1 : Int32)))) (xs (nx (x3 + (2 : Int32)))) MC) (fun r79 MC79 => zgd (zin (x3 + (1 : Int32)) L) (zgd (zin (x3 + (2 : Int32)) L) (zbd (m12_say (xs (nx (x3 + (1 : Int32)))) (xs (nx (x3 + (2 : Int32)))) MR) (fun r82 MR82 => (if r79 = r82 then some (MC79, MR82) else none)))))))
set_option maxHeartbeats 4000000 in
theorem mL_9_ok {p : Program} {l : Launch} {e : Env} {s : State} {m : MethodId} {args : Array Value} {below : List Frame} {meth : Method} {c : Code} {Q : State → Prop} {D : va_G} {ad : zR → Nat} {ca : Nat → ClassId} {A : Nat → Prop} {base n k : Nat} {L : Nat} {xs : Nat → Int32} {x3 : Int32} {MC MC' : cM} {MR MR' : rM} (hW : zWh zUA base ad A) (Z : zOK (zCm p l e room_1 s m args below meth c Q code 4 R_law tbL (zGL D ad ca A))) (hX : va_X (ad (2200, 0)) L xs s s.heap ∧ ad (2200, 0) < s.heap.size ∧ ¬ A (ad (2200, 0))) (hnk : n ≤ room_1.cells ∧ k ≤ room_1.slots) (h : mL_9 L xs x3 MC MR = some (MC', MR')) (K : zGo (zCm p l e room_1 s m args below meth c Q code 4 R_law tbL (zGL D ad ca A)) n k (1669, [(0, .inr (.inr (some (2200, 0)))), (1, .inr (.inr (some (11, 0)))), (2, .inr (.inr (some (12, 0)))), (3, .inl x3)], [], zmix MC' MR')) : zGo (zCm p l e room_1 s m args below meth c Q code 4 R_law tbL (zGL D ad ca A)) n k (537, [(0, .inr (.inr (some (2200, 0)))), (1, .inr (.inr (some (11, 0)))), (2, .inr (.inr (some (12, 0)))), (3, .inl x3)], [], zmix MC MR) := by
  unfold mL_9 at h
  refine zblq Z rfl [(.aload 1, 1), (.aload 0, 1), (.iload 3, 1), (.iconst 1, 1), (.iadd, 1)] (S' := (542, [(0, .inr (.inr (some (2200, 0)))), (1, .inr (.inr (some (11, 0)))), (2, .inr (.inr (some (12, 0)))), (3, .inl x3)], [.inl (x3 + (1 : Int32)), .inr (.inr (some (2200, 0))), .inr (.inr (some (11, 0)))], zmix MC MR)) (b := true) (by decide +kernel) rfl rfl ?_
  obtain ⟨hg77, h⟩ := zgd_inv h
  refine c_sld Z hX hg77 (by decide +kernel) ?_
  refine zblq Z rfl [(.aload 0, 1), (.iload 3, 1), (.iconst 2, 1), (.iadd, 1)] (S' := (547, [(0, .inr (.inr (some (2200, 0)))), (1, .inr (.inr (some (11, 0)))), (2, .inr (.inr (some (12, 0)))), (3, .inl x3)], [.inl (x3 + (2 : Int32)), .inr (.inr (some (2200, 0))), .inl (xs (nx (x3 + (1 : Int32)))), .inr (.inr (some (11, 0)))], zmix MC MR)) (b := true) (by decide +kernel) rfl rfl ?_
  obtain ⟨hg78, h⟩ := zgd_inv h
  refine c_sld Z hX hg78 (by decide +kernel) ?_
  obtain ⟨r79, MC79, hc79, h⟩ := zbd_inv h
  refine lw_callC hW Z (as := [.inl (xs (nx (x3 + (1 : Int32)))), .inl (xs (nx (x3 + (2 : Int32))))]) (st := []) (m11_say_met (zGC_ok hW) rfl hc79) cwL_54 m11_say_in m11_say_se rfl ⟨by exact Nat.le_of_ble_eq_true rfl, by exact Nat.le_of_ble_eq_true rfl⟩ rfl (by decide +kernel) hnk ?_
  refine zblq Z rfl [(.aload 2, 1), (.aload 0, 1), (.iload 3, 1), (.iconst 1, 1), (.iadd, 1)] (S' := (556, [(0, .inr (.inr (some (2200, 0)))), (1, .inr (.inr (some (11, 0)))), (2, .inr (.inr (some (12, 0)))), (3, .inl x3)], [.inl (x3 + (1 : Int32)), .inr (.inr (some (2200, 0))), .inr (.inr (some (12, 0))), .inl r79], zmix MC79 MR)) (b := true) (by decide +kernel) rfl rfl ?_
  obtain ⟨hg80, h⟩ := zgd_inv h
  refine c_sld Z hX hg80 (by decide +kernel) ?_
  refine zblq Z rfl [(.aload 0, 1), (.iload 3, 1), (.iconst 2, 1), (.iadd, 1)] (S' := (561, [(0, .inr (.inr (some (2200, 0)))), (1, .inr (.inr (some (11, 0)))), (2, .inr (.inr (some (12, 0)))), (3, .inl x3)], [.inl (x3 + (2 : Int32)), .inr (.inr (some (2200, 0))), .inl (xs (nx (x3 + (1 : Int32)))), .inr (.inr (some (12, 0))), .inl r79], zmix MC79 MR)) (b := true) (by decide +kernel) rfl rfl ?_
  obtain ⟨hg81, h⟩ := zgd_inv h
  refine c_sld Z hX hg81 (by decide +kernel) ?_
  obtain ⟨r82, MR82, hc82, h⟩ := zbd_inv h
  refine lw_callR hW Z (as := [.inl (xs (nx (x3 + (1 : Int32)))), .inl (xs (nx (x3 + (2 : Int32))))]) (st := [.inl r79]) (m12_say_met (zGR_ok hW) rfl hc82) cwL_57 m12_say_in m12_say_se rfl ⟨by exact Nat.le_of_ble_eq_true rfl, by exact Nat.le_of_ble_eq_true rfl⟩ rfl (by decide +kernel) hnk ?_
  refine zic_eq Z (off := 1104) (tgt := 1669) (by decide +kernel) (by decide) (fun hb83 => ?_) (fun hb83 => ?_)
  · replace h := zite_t h hb83
    cases h
    exact K
  · replace h := zite_f h hb83
    cases h
def mL_10 (L : Nat) (xs : Nat → Int32) (x3 : Int32) (MC : cM) (MR : rM) : Option (cM × rM) := zgd (zin (x3 + (1 : Int32)) L) (zbd (m11_ticks (xs (nx (x3 + (1 : Int32)))) MC) (fun r85 MC85 => zgd (zin (x3 + (1 : Int32)) L) (zbd (m12_ticks (xs (nx (x3 + (1 : Int32)))) MR) (fun r87 MR87 => (if r85 = r87 then some (MC85, MR87) else none)))))
set_option maxHeartbeats 4000000 in
theorem mL_10_ok {p : Program} {l : Launch} {e : Env} {s : State} {m : MethodId} {args : Array Value} {below : List Frame} {meth : Method} {c : Code} {Q : State → Prop} {D : va_G} {ad : zR → Nat} {ca : Nat → ClassId} {A : Nat → Prop} {base n k : Nat} {L : Nat} {xs : Nat → Int32} {x3 : Int32} {MC MC' : cM} {MR MR' : rM} (hW : zWh zUA base ad A) (Z : zOK (zCm p l e room_1 s m args below meth c Q code 4 R_law tbL (zGL D ad ca A))) (hX : va_X (ad (2200, 0)) L xs s s.heap ∧ ad (2200, 0) < s.heap.size ∧ ¬ A (ad (2200, 0))) (hnk : n ≤ room_1.cells ∧ k ≤ room_1.slots) (h : mL_10 L xs x3 MC MR = some (MC', MR')) (K : zGo (zCm p l e room_1 s m args below meth c Q code 4 R_law tbL (zGL D ad ca A)) n k (1669, [(0, .inr (.inr (some (2200, 0)))), (1, .inr (.inr (some (11, 0)))), (2, .inr (.inr (some (12, 0)))), (3, .inl x3)], [], zmix MC' MR')) : zGo (zCm p l e room_1 s m args below meth c Q code 4 R_law tbL (zGL D ad ca A)) n k (570, [(0, .inr (.inr (some (2200, 0)))), (1, .inr (.inr (some (11, 0)))), (2, .inr (.inr (some (12, 0)))), (3, .inl x3)], [], zmix MC MR) := by
  unfold mL_10 at h
  refine zblq Z rfl [(.aload 1, 1), (.aload 0, 1), (.iload 3, 1), (.iconst 1, 1), (.iadd, 1)] (S' := (575, [(0, .inr (.inr (some (2200, 0)))), (1, .inr (.inr (some (11, 0)))), (2, .inr (.inr (some (12, 0)))), (3, .inl x3)], [.inl (x3 + (1 : Int32)), .inr (.inr (some (2200, 0))), .inr (.inr (some (11, 0)))], zmix MC MR)) (b := true) (by decide +kernel) rfl rfl ?_
  obtain ⟨hg84, h⟩ := zgd_inv h
  refine c_sld Z hX hg84 (by decide +kernel) ?_
  obtain ⟨r85, MC85, hc85, h⟩ := zbd_inv h
  refine lw_callC hW Z (as := [.inl (xs (nx (x3 + (1 : Int32))))]) (st := []) (m11_ticks_met (zGC_ok hW) rfl hc85) cwL_58 m11_ticks_in m11_ticks_se rfl ⟨by exact Nat.le_of_ble_eq_true rfl, by exact Nat.le_of_ble_eq_true rfl⟩ rfl (by decide +kernel) hnk ?_
  refine zblq Z rfl [(.aload 2, 1), (.aload 0, 1), (.iload 3, 1), (.iconst 1, 1), (.iadd, 1)] (S' := (584, [(0, .inr (.inr (some (2200, 0)))), (1, .inr (.inr (some (11, 0)))), (2, .inr (.inr (some (12, 0)))), (3, .inl x3)], [.inl (x3 + (1 : Int32)), .inr (.inr (some (2200, 0))), .inr (.inr (some (12, 0))), .inl r85], zmix MC85 MR)) (b := true) (by decide +kernel) rfl rfl ?_
  obtain ⟨hg86, h⟩ := zgd_inv h
  refine c_sld Z hX hg86 (by decide +kernel) ?_
  obtain ⟨r87, MR87, hc87, h⟩ := zbd_inv h
  refine lw_callR hW Z (as := [.inl (xs (nx (x3 + (1 : Int32))))]) (st := [.inl r85]) (m12_ticks_met (zGR_ok hW) rfl hc87) cwL_61 m12_ticks_in m12_ticks_se rfl ⟨by exact Nat.le_of_ble_eq_true rfl, by exact Nat.le_of_ble_eq_true rfl⟩ rfl (by decide +kernel) hnk ?_
  refine zic_eq Z (off := 1081) (tgt := 1669) (by decide +kernel) (by decide) (fun hb88 => ?_) (fun hb88 => ?_)
  · replace h := zite_t h hb88
    cases h
    exact K
  · replace h := zite_f h hb88
    cases h
def mL_11 (L : Nat) (xs : Nat → Int32) (x3 : Int32) (MC : cM) (MR : rM) : Option (cM × rM) := zgd (zin (x3 + (1 : Int32)) L) (zbd (m11_lost (xs (nx (x3 + (1 : Int32)))) MC) (fun r90 MC90 => zgd (zin (x3 + (1 : Int32)) L) (zbd (m12_lost (xs (nx (x3 + (1 : Int32)))) MR) (fun r92 MR92 => (if r90 = r92 then some (MC90, MR92) else none)))))
set_option maxHeartbeats 4000000 in
theorem mL_11_ok {p : Program} {l : Launch} {e : Env} {s : State} {m : MethodId} {args : Array Value} {below : List Frame} {meth : Method} {c : Code} {Q : State → Prop} {D : va_G} {ad : zR → Nat} {ca : Nat → ClassId} {A : Nat → Prop} {base n k : Nat} {L : Nat} {xs : Nat → Int32} {x3 : Int32} {MC MC' : cM} {MR MR' : rM} (hW : zWh zUA base ad A) (Z : zOK (zCm p l e room_1 s m args below meth c Q code 4 R_law tbL (zGL D ad ca A))) (hX : va_X (ad (2200, 0)) L xs s s.heap ∧ ad (2200, 0) < s.heap.size ∧ ¬ A (ad (2200, 0))) (hnk : n ≤ room_1.cells ∧ k ≤ room_1.slots) (h : mL_11 L xs x3 MC MR = some (MC', MR')) (K : zGo (zCm p l e room_1 s m args below meth c Q code 4 R_law tbL (zGL D ad ca A)) n k (1669, [(0, .inr (.inr (some (2200, 0)))), (1, .inr (.inr (some (11, 0)))), (2, .inr (.inr (some (12, 0)))), (3, .inl x3)], [], zmix MC' MR')) : zGo (zCm p l e room_1 s m args below meth c Q code 4 R_law tbL (zGL D ad ca A)) n k (593, [(0, .inr (.inr (some (2200, 0)))), (1, .inr (.inr (some (11, 0)))), (2, .inr (.inr (some (12, 0)))), (3, .inl x3)], [], zmix MC MR) := by
  unfold mL_11 at h
  refine zblq Z rfl [(.aload 1, 1), (.aload 0, 1), (.iload 3, 1), (.iconst 1, 1), (.iadd, 1)] (S' := (598, [(0, .inr (.inr (some (2200, 0)))), (1, .inr (.inr (some (11, 0)))), (2, .inr (.inr (some (12, 0)))), (3, .inl x3)], [.inl (x3 + (1 : Int32)), .inr (.inr (some (2200, 0))), .inr (.inr (some (11, 0)))], zmix MC MR)) (b := true) (by decide +kernel) rfl rfl ?_
  obtain ⟨hg89, h⟩ := zgd_inv h
  refine c_sld Z hX hg89 (by decide +kernel) ?_
  obtain ⟨r90, MC90, hc90, h⟩ := zbd_inv h
  refine lw_callC hW Z (as := [.inl (xs (nx (x3 + (1 : Int32))))]) (st := []) (m11_lost_met (zGC_ok hW) rfl hc90) cwL_62 m11_lost_in m11_lost_se rfl ⟨by exact Nat.le_of_ble_eq_true rfl, by exact Nat.le_of_ble_eq_true rfl⟩ rfl (by decide +kernel) hnk ?_
  refine zblq Z rfl [(.aload 2, 1), (.aload 0, 1), (.iload 3, 1), (.iconst 1, 1), (.iadd, 1)] (S' := (607, [(0, .inr (.inr (some (2200, 0)))), (1, .inr (.inr (some (11, 0)))), (2, .inr (.inr (some (12, 0)))), (3, .inl x3)], [.inl (x3 + (1 : Int32)), .inr (.inr (some (2200, 0))), .inr (.inr (some (12, 0))), .inl r90], zmix MC90 MR)) (b := true) (by decide +kernel) rfl rfl ?_
  obtain ⟨hg91, h⟩ := zgd_inv h
  refine c_sld Z hX hg91 (by decide +kernel) ?_
  obtain ⟨r92, MR92, hc92, h⟩ := zbd_inv h
  refine lw_callR hW Z (as := [.inl (xs (nx (x3 + (1 : Int32))))]) (st := [.inl r90]) (m12_lost_met (zGR_ok hW) rfl hc92) cwL_65 m12_lost_in m12_lost_se rfl ⟨by exact Nat.le_of_ble_eq_true rfl, by exact Nat.le_of_ble_eq_true rfl⟩ rfl (by decide +kernel) hnk ?_
  refine zic_eq Z (off := 1058) (tgt := 1669) (by decide +kernel) (by decide) (fun hb93 => ?_) (fun hb93 => ?_)
  · replace h := zite_t h hb93
    cases h
    exact K
  · replace h := zite_f h hb93
    cases h
def mL_12 (L : Nat) (xs : Nat → Int32) (x3 : Int32) (MC : cM) (MR : rM) : Option (cM × rM) := zgd (zin (x3 + (1 : Int32)) L) (zbd (m11_kept (xs (nx (x3 + (1 : Int32)))) MC) (fun r95 MC95 => zgd (zin (x3 + (1 : Int32)) L) (zbd (m12_kept (xs (nx (x3 + (1 : Int32)))) MR) (fun r97 MR97 => (if r95 = r97 then some (MC95, MR97) else none)))))
set_option maxHeartbeats 4000000 in
theorem mL_12_ok {p : Program} {l : Launch} {e : Env} {s : State} {m : MethodId} {args : Array Value} {below : List Frame} {meth : Method} {c : Code} {Q : State → Prop} {D : va_G} {ad : zR → Nat} {ca : Nat → ClassId} {A : Nat → Prop} {base n k : Nat} {L : Nat} {xs : Nat → Int32} {x3 : Int32} {MC MC' : cM} {MR MR' : rM} (hW : zWh zUA base ad A) (Z : zOK (zCm p l e room_1 s m args below meth c Q code 4 R_law tbL (zGL D ad ca A))) (hX : va_X (ad (2200, 0)) L xs s s.heap ∧ ad (2200, 0) < s.heap.size ∧ ¬ A (ad (2200, 0))) (hnk : n ≤ room_1.cells ∧ k ≤ room_1.slots) (h : mL_12 L xs x3 MC MR = some (MC', MR')) (K : zGo (zCm p l e room_1 s m args below meth c Q code 4 R_law tbL (zGL D ad ca A)) n k (1669, [(0, .inr (.inr (some (2200, 0)))), (1, .inr (.inr (some (11, 0)))), (2, .inr (.inr (some (12, 0)))), (3, .inl x3)], [], zmix MC' MR')) : zGo (zCm p l e room_1 s m args below meth c Q code 4 R_law tbL (zGL D ad ca A)) n k (616, [(0, .inr (.inr (some (2200, 0)))), (1, .inr (.inr (some (11, 0)))), (2, .inr (.inr (some (12, 0)))), (3, .inl x3)], [], zmix MC MR) := by
  unfold mL_12 at h
  refine zblq Z rfl [(.aload 1, 1), (.aload 0, 1), (.iload 3, 1), (.iconst 1, 1), (.iadd, 1)] (S' := (621, [(0, .inr (.inr (some (2200, 0)))), (1, .inr (.inr (some (11, 0)))), (2, .inr (.inr (some (12, 0)))), (3, .inl x3)], [.inl (x3 + (1 : Int32)), .inr (.inr (some (2200, 0))), .inr (.inr (some (11, 0)))], zmix MC MR)) (b := true) (by decide +kernel) rfl rfl ?_
  obtain ⟨hg94, h⟩ := zgd_inv h
  refine c_sld Z hX hg94 (by decide +kernel) ?_
  obtain ⟨r95, MC95, hc95, h⟩ := zbd_inv h
  refine lw_callC hW Z (as := [.inl (xs (nx (x3 + (1 : Int32))))]) (st := []) (m11_kept_met (zGC_ok hW) rfl hc95) cwL_66 m11_kept_in m11_kept_se rfl ⟨by exact Nat.le_of_ble_eq_true rfl, by exact Nat.le_of_ble_eq_true rfl⟩ rfl (by decide +kernel) hnk ?_
  refine zblq Z rfl [(.aload 2, 1), (.aload 0, 1), (.iload 3, 1), (.iconst 1, 1), (.iadd, 1)] (S' := (630, [(0, .inr (.inr (some (2200, 0)))), (1, .inr (.inr (some (11, 0)))), (2, .inr (.inr (some (12, 0)))), (3, .inl x3)], [.inl (x3 + (1 : Int32)), .inr (.inr (some (2200, 0))), .inr (.inr (some (12, 0))), .inl r95], zmix MC95 MR)) (b := true) (by decide +kernel) rfl rfl ?_
  obtain ⟨hg96, h⟩ := zgd_inv h
  refine c_sld Z hX hg96 (by decide +kernel) ?_
  obtain ⟨r97, MR97, hc97, h⟩ := zbd_inv h
  refine lw_callR hW Z (as := [.inl (xs (nx (x3 + (1 : Int32))))]) (st := [.inl r95]) (m12_kept_met (zGR_ok hW) rfl hc97) cwL_69 m12_kept_in m12_kept_se rfl ⟨by exact Nat.le_of_ble_eq_true rfl, by exact Nat.le_of_ble_eq_true rfl⟩ rfl (by decide +kernel) hnk ?_
  refine zic_eq Z (off := 1035) (tgt := 1669) (by decide +kernel) (by decide) (fun hb98 => ?_) (fun hb98 => ?_)
  · replace h := zite_t h hb98
    cases h
    exact K
  · replace h := zite_f h hb98
    cases h
def mL_13 (L : Nat) (xs : Nat → Int32) (x3 : Int32) (MC : cM) (MR : rM) : Option (cM × rM) := zgd (zin (x3 + (1 : Int32)) L) (zgd (zin (x3 + (2 : Int32)) L) (zgd (zin (x3 + (3 : Int32)) L) (zbd (m11_write ((zshlL (Int32.toInt64 (xs (nx (x3 + (1 : Int32))))) (32 : Int32)) ||| ((Int32.toInt64 (xs (nx (x3 + (2 : Int32))))) &&& (4294967295 : Int64))) (xs (nx (x3 + (3 : Int32)))) MC) (fun r102 MC102 => zgd (zin (x3 + (1 : Int32)) L) (zgd (zin (x3 + (2 : Int32)) L) (zgd (zin (x3 + (3 : Int32)) L) (zbd (m12_write ((zshlL (Int32.toInt64 (xs (nx (x3 + (1 : Int32))))) (32 : Int32)) ||| ((Int32.toInt64 (xs (nx (x3 + (2 : Int32))))) &&& (4294967295 : Int64))) (xs (nx (x3 + (3 : Int32)))) MR) (fun r106 MR106 => (if r102 = r106 then some (MC102, MR106) else none)))))))))
set_option maxHeartbeats 4000000 in
theorem mL_13_ok {p : Program} {l : Launch} {e : Env} {s : State} {m : MethodId} {args : Array Value} {below : List Frame} {meth : Method} {c : Code} {Q : State → Prop} {D : va_G} {ad : zR → Nat} {ca : Nat → ClassId} {A : Nat → Prop} {base n k : Nat} {L : Nat} {xs : Nat → Int32} {x3 : Int32} {MC MC' : cM} {MR MR' : rM} (hW : zWh zUA base ad A) (Z : zOK (zCm p l e room_1 s m args below meth c Q code 4 R_law tbL (zGL D ad ca A))) (hX : va_X (ad (2200, 0)) L xs s s.heap ∧ ad (2200, 0) < s.heap.size ∧ ¬ A (ad (2200, 0))) (hnk : n ≤ room_1.cells ∧ k ≤ room_1.slots) (h : mL_13 L xs x3 MC MR = some (MC', MR')) (K : zGo (zCm p l e room_1 s m args below meth c Q code 4 R_law tbL (zGL D ad ca A)) n k (1669, [(0, .inr (.inr (some (2200, 0)))), (1, .inr (.inr (some (11, 0)))), (2, .inr (.inr (some (12, 0)))), (3, .inl x3)], [], zmix MC' MR')) : zGo (zCm p l e room_1 s m args below meth c Q code 4 R_law tbL (zGL D ad ca A)) n k (639, [(0, .inr (.inr (some (2200, 0)))), (1, .inr (.inr (some (11, 0)))), (2, .inr (.inr (some (12, 0)))), (3, .inl x3)], [], zmix MC MR) := by
  unfold mL_13 at h
  refine zblq Z rfl [(.aload 1, 1), (.aload 0, 1), (.iload 3, 1), (.iconst 1, 1), (.iadd, 1)] (S' := (644, [(0, .inr (.inr (some (2200, 0)))), (1, .inr (.inr (some (11, 0)))), (2, .inr (.inr (some (12, 0)))), (3, .inl x3)], [.inl (x3 + (1 : Int32)), .inr (.inr (some (2200, 0))), .inr (.inr (some (11, 0)))], zmix MC MR)) (b := true) (by decide +kernel) rfl rfl ?_
  obtain ⟨hg99, h⟩ := zgd_inv h
  refine c_sld Z hX hg99 (by decide +kernel) ?_
  refine zblq Z rfl [(.i2l, 1), (.iconst 32, 2), (.lshl, 1), (.aload 0, 1), (.iload 3, 1), (.iconst 2, 1), (.iadd, 1)] (S' := (653, [(0, .inr (.inr (some (2200, 0)))), (1, .inr (.inr (some (11, 0)))), (2, .inr (.inr (some (12, 0)))), (3, .inl x3)], [.inl (x3 + (2 : Int32)), .inr (.inr (some (2200, 0))), .inr (.inl (zshlL (Int32.toInt64 (xs (nx (x3 + (1 : Int32))))) (32 : Int32))), .inr (.inr (some (11, 0)))], zmix MC MR)) (b := true) (by decide +kernel) rfl rfl ?_
  obtain ⟨hg100, h⟩ := zgd_inv h
  refine c_sld Z hX hg100 (by decide +kernel) ?_
  refine zblq Z rfl [(.i2l, 1), (.goto_w 4294967295, 3), (.land, 1), (.lor, 1), (.aload 0, 1), (.iload 3, 1), (.iconst 3, 1), (.iadd, 1)] (S' := (664, [(0, .inr (.inr (some (2200, 0)))), (1, .inr (.inr (some (11, 0)))), (2, .inr (.inr (some (12, 0)))), (3, .inl x3)], [.inl (x3 + (3 : Int32)), .inr (.inr (some (2200, 0))), .inr (.inl ((zshlL (Int32.toInt64 (xs (nx (x3 + (1 : Int32))))) (32 : Int32)) ||| ((Int32.toInt64 (xs (nx (x3 + (2 : Int32))))) &&& (4294967295 : Int64)))), .inr (.inr (some (11, 0)))], zmix MC MR)) (b := true) (by decide +kernel) rfl rfl ?_
  obtain ⟨hg101, h⟩ := zgd_inv h
  refine c_sld Z hX hg101 (by decide +kernel) ?_
  obtain ⟨r102, MC102, hc102, h⟩ := zbd_inv h
  refine lw_callC hW Z (as := [.inr (.inl ((zshlL (Int32.toInt64 (xs (nx (x3 + (1 : Int32))))) (32 : Int32)) ||| ((Int32.toInt64 (xs (nx (x3 + (2 : Int32))))) &&& (4294967295 : Int64)))), .inl (xs (nx (x3 + (3 : Int32))))]) (st := []) (m11_write_met (zGC_ok hW) rfl hc102) cwL_72 m11_write_in m11_write_se rfl ⟨by exact Nat.le_of_ble_eq_true rfl, by exact Nat.le_of_ble_eq_true rfl⟩ rfl (by decide +kernel) hnk ?_
  refine zblq Z rfl [(.aload 2, 1), (.aload 0, 1), (.iload 3, 1), (.iconst 1, 1), (.iadd, 1)] (S' := (673, [(0, .inr (.inr (some (2200, 0)))), (1, .inr (.inr (some (11, 0)))), (2, .inr (.inr (some (12, 0)))), (3, .inl x3)], [.inl (x3 + (1 : Int32)), .inr (.inr (some (2200, 0))), .inr (.inr (some (12, 0))), .inl r102], zmix MC102 MR)) (b := true) (by decide +kernel) rfl rfl ?_
  obtain ⟨hg103, h⟩ := zgd_inv h
  refine c_sld Z hX hg103 (by decide +kernel) ?_
  refine zblq Z rfl [(.i2l, 1), (.iconst 32, 2), (.lshl, 1), (.aload 0, 1), (.iload 3, 1), (.iconst 2, 1), (.iadd, 1)] (S' := (682, [(0, .inr (.inr (some (2200, 0)))), (1, .inr (.inr (some (11, 0)))), (2, .inr (.inr (some (12, 0)))), (3, .inl x3)], [.inl (x3 + (2 : Int32)), .inr (.inr (some (2200, 0))), .inr (.inl (zshlL (Int32.toInt64 (xs (nx (x3 + (1 : Int32))))) (32 : Int32))), .inr (.inr (some (12, 0))), .inl r102], zmix MC102 MR)) (b := true) (by decide +kernel) rfl rfl ?_
  obtain ⟨hg104, h⟩ := zgd_inv h
  refine c_sld Z hX hg104 (by decide +kernel) ?_
  refine zblq Z rfl [(.i2l, 1), (.goto_w 4294967295, 3), (.land, 1), (.lor, 1), (.aload 0, 1), (.iload 3, 1), (.iconst 3, 1), (.iadd, 1)] (S' := (693, [(0, .inr (.inr (some (2200, 0)))), (1, .inr (.inr (some (11, 0)))), (2, .inr (.inr (some (12, 0)))), (3, .inl x3)], [.inl (x3 + (3 : Int32)), .inr (.inr (some (2200, 0))), .inr (.inl ((zshlL (Int32.toInt64 (xs (nx (x3 + (1 : Int32))))) (32 : Int32)) ||| ((Int32.toInt64 (xs (nx (x3 + (2 : Int32))))) &&& (4294967295 : Int64)))), .inr (.inr (some (12, 0))), .inl r102], zmix MC102 MR)) (b := true) (by decide +kernel) rfl rfl ?_
  obtain ⟨hg105, h⟩ := zgd_inv h
  refine c_sld Z hX hg105 (by decide +kernel) ?_
  obtain ⟨r106, MR106, hc106, h⟩ := zbd_inv h
  refine lw_callR hW Z (as := [.inr (.inl ((zshlL (Int32.toInt64 (xs (nx (x3 + (1 : Int32))))) (32 : Int32)) ||| ((Int32.toInt64 (xs (nx (x3 + (2 : Int32))))) &&& (4294967295 : Int64)))), .inl (xs (nx (x3 + (3 : Int32))))]) (st := [.inl r102]) (m12_write_met (zGR_ok hW) rfl hc106) cwL_76 m12_write_in m12_write_se rfl ⟨by exact Nat.le_of_ble_eq_true rfl, by exact Nat.le_of_ble_eq_true rfl⟩ rfl (by decide +kernel) hnk ?_
  refine zic_eq Z (off := 972) (tgt := 1669) (by decide +kernel) (by decide) (fun hb107 => ?_) (fun hb107 => ?_)
  · replace h := zite_t h hb107
    cases h
    exact K
  · replace h := zite_f h hb107
    cases h
def mL_14 (L : Nat) (xs : Nat → Int32) (x3 : Int32) (MC : cM) (MR : rM) : Option (cM × rM) := zbd (m11_erase MC) (fun r108 MC108 => zbd (m12_erase MR) (fun r109 MR109 => (if r108 = r109 then some (MC108, MR109) else none)))
set_option maxHeartbeats 4000000 in
theorem mL_14_ok {p : Program} {l : Launch} {e : Env} {s : State} {m : MethodId} {args : Array Value} {below : List Frame} {meth : Method} {c : Code} {Q : State → Prop} {D : va_G} {ad : zR → Nat} {ca : Nat → ClassId} {A : Nat → Prop} {base n k : Nat} {L : Nat} {xs : Nat → Int32} {x3 : Int32} {MC MC' : cM} {MR MR' : rM} (hW : zWh zUA base ad A) (Z : zOK (zCm p l e room_1 s m args below meth c Q code 4 R_law tbL (zGL D ad ca A))) (hX : va_X (ad (2200, 0)) L xs s s.heap ∧ ad (2200, 0) < s.heap.size ∧ ¬ A (ad (2200, 0))) (hnk : n ≤ room_1.cells ∧ k ≤ room_1.slots) (h : mL_14 L xs x3 MC MR = some (MC', MR')) (K : zGo (zCm p l e room_1 s m args below meth c Q code 4 R_law tbL (zGL D ad ca A)) n k (1669, [(0, .inr (.inr (some (2200, 0)))), (1, .inr (.inr (some (11, 0)))), (2, .inr (.inr (some (12, 0)))), (3, .inl x3)], [], zmix MC' MR')) : zGo (zCm p l e room_1 s m args below meth c Q code 4 R_law tbL (zGL D ad ca A)) n k (702, [(0, .inr (.inr (some (2200, 0)))), (1, .inr (.inr (some (11, 0)))), (2, .inr (.inr (some (12, 0)))), (3, .inl x3)], [], zmix MC MR) := by
  unfold mL_14 at h
  refine zblq Z rfl [(.aload 1, 1)] (S' := (703, [(0, .inr (.inr (some (2200, 0)))), (1, .inr (.inr (some (11, 0)))), (2, .inr (.inr (some (12, 0)))), (3, .inl x3)], [.inr (.inr (some (11, 0)))], zmix MC MR)) (b := true) (by decide +kernel) rfl rfl ?_
  obtain ⟨r108, MC108, hc108, h⟩ := zbd_inv h
  refine lw_callC hW Z (as := []) (st := []) (m11_erase_met (zGC_ok hW) rfl hc108) cwL_77 m11_erase_in m11_erase_se rfl ⟨by exact Nat.le_of_ble_eq_true rfl, by exact Nat.le_of_ble_eq_true rfl⟩ rfl (by decide +kernel) hnk ?_
  refine zblq Z rfl [(.aload 2, 1)] (S' := (707, [(0, .inr (.inr (some (2200, 0)))), (1, .inr (.inr (some (11, 0)))), (2, .inr (.inr (some (12, 0)))), (3, .inl x3)], [.inr (.inr (some (12, 0))), .inl r108], zmix MC108 MR)) (b := true) (by decide +kernel) rfl rfl ?_
  obtain ⟨r109, MR109, hc109, h⟩ := zbd_inv h
  refine lw_callR hW Z (as := []) (st := [.inl r108]) (m12_erase_met (zGR_ok hW) rfl hc109) cwL_80 m12_erase_in m12_erase_se rfl ⟨by exact Nat.le_of_ble_eq_true rfl, by exact Nat.le_of_ble_eq_true rfl⟩ rfl (by decide +kernel) hnk ?_
  refine zic_eq Z (off := 959) (tgt := 1669) (by decide +kernel) (by decide) (fun hb110 => ?_) (fun hb110 => ?_)
  · replace h := zite_t h hb110
    cases h
    exact K
  · replace h := zite_f h hb110
    cases h
def mL_15 (L : Nat) (xs : Nat → Int32) (x3 : Int32) (MC : cM) (MR : rM) : Option (cM × rM) := zbd (m11_fault MC) (fun r111 MC111 => zbd (m12_fault MR) (fun r112 MR112 => (if r111 = r112 then some (MC111, MR112) else none)))
set_option maxHeartbeats 4000000 in
theorem mL_15_ok {p : Program} {l : Launch} {e : Env} {s : State} {m : MethodId} {args : Array Value} {below : List Frame} {meth : Method} {c : Code} {Q : State → Prop} {D : va_G} {ad : zR → Nat} {ca : Nat → ClassId} {A : Nat → Prop} {base n k : Nat} {L : Nat} {xs : Nat → Int32} {x3 : Int32} {MC MC' : cM} {MR MR' : rM} (hW : zWh zUA base ad A) (Z : zOK (zCm p l e room_1 s m args below meth c Q code 4 R_law tbL (zGL D ad ca A))) (hX : va_X (ad (2200, 0)) L xs s s.heap ∧ ad (2200, 0) < s.heap.size ∧ ¬ A (ad (2200, 0))) (hnk : n ≤ room_1.cells ∧ k ≤ room_1.slots) (h : mL_15 L xs x3 MC MR = some (MC', MR')) (K : zGo (zCm p l e room_1 s m args below meth c Q code 4 R_law tbL (zGL D ad ca A)) n k (1669, [(0, .inr (.inr (some (2200, 0)))), (1, .inr (.inr (some (11, 0)))), (2, .inr (.inr (some (12, 0)))), (3, .inl x3)], [], zmix MC' MR')) : zGo (zCm p l e room_1 s m args below meth c Q code 4 R_law tbL (zGL D ad ca A)) n k (715, [(0, .inr (.inr (some (2200, 0)))), (1, .inr (.inr (some (11, 0)))), (2, .inr (.inr (some (12, 0)))), (3, .inl x3)], [], zmix MC MR) := by
  unfold mL_15 at h
  refine zblq Z rfl [(.aload 1, 1)] (S' := (716, [(0, .inr (.inr (some (2200, 0)))), (1, .inr (.inr (some (11, 0)))), (2, .inr (.inr (some (12, 0)))), (3, .inl x3)], [.inr (.inr (some (11, 0)))], zmix MC MR)) (b := true) (by decide +kernel) rfl rfl ?_
  obtain ⟨r111, MC111, hc111, h⟩ := zbd_inv h
  refine lw_callC hW Z (as := []) (st := []) (m11_fault_met (zGC_ok hW) rfl hc111) cwL_81 m11_fault_in m11_fault_se rfl ⟨by exact Nat.le_of_ble_eq_true rfl, by exact Nat.le_of_ble_eq_true rfl⟩ rfl (by decide +kernel) hnk ?_
  refine zblq Z rfl [(.aload 2, 1)] (S' := (720, [(0, .inr (.inr (some (2200, 0)))), (1, .inr (.inr (some (11, 0)))), (2, .inr (.inr (some (12, 0)))), (3, .inl x3)], [.inr (.inr (some (12, 0))), .inl r111], zmix MC111 MR)) (b := true) (by decide +kernel) rfl rfl ?_
  obtain ⟨r112, MR112, hc112, h⟩ := zbd_inv h
  refine lw_callR hW Z (as := []) (st := [.inl r111]) (m12_fault_met (zGR_ok hW) rfl hc112) cwL_84 m12_fault_in m12_fault_se rfl ⟨by exact Nat.le_of_ble_eq_true rfl, by exact Nat.le_of_ble_eq_true rfl⟩ rfl (by decide +kernel) hnk ?_
  refine zic_eq Z (off := 946) (tgt := 1669) (by decide +kernel) (by decide) (fun hb113 => ?_) (fun hb113 => ?_)
  · replace h := zite_t h hb113
    cases h
    exact K
  · replace h := zite_f h hb113
    cases h
def mL_16 (L : Nat) (xs : Nat → Int32) (x3 : Int32) (MC : cM) (MR : rM) : Option (cM × rM) := zbd (m11_ask MC) (fun r114 MC114 => zbd (m12_ask MR) (fun r115 MR115 => (if r114 = r115 then some (MC114, MR115) else none)))
set_option maxHeartbeats 4000000 in
theorem mL_16_ok {p : Program} {l : Launch} {e : Env} {s : State} {m : MethodId} {args : Array Value} {below : List Frame} {meth : Method} {c : Code} {Q : State → Prop} {D : va_G} {ad : zR → Nat} {ca : Nat → ClassId} {A : Nat → Prop} {base n k : Nat} {L : Nat} {xs : Nat → Int32} {x3 : Int32} {MC MC' : cM} {MR MR' : rM} (hW : zWh zUA base ad A) (Z : zOK (zCm p l e room_1 s m args below meth c Q code 4 R_law tbL (zGL D ad ca A))) (hX : va_X (ad (2200, 0)) L xs s s.heap ∧ ad (2200, 0) < s.heap.size ∧ ¬ A (ad (2200, 0))) (hnk : n ≤ room_1.cells ∧ k ≤ room_1.slots) (h : mL_16 L xs x3 MC MR = some (MC', MR')) (K : zGo (zCm p l e room_1 s m args below meth c Q code 4 R_law tbL (zGL D ad ca A)) n k (1669, [(0, .inr (.inr (some (2200, 0)))), (1, .inr (.inr (some (11, 0)))), (2, .inr (.inr (some (12, 0)))), (3, .inl x3)], [], zmix MC' MR')) : zGo (zCm p l e room_1 s m args below meth c Q code 4 R_law tbL (zGL D ad ca A)) n k (728, [(0, .inr (.inr (some (2200, 0)))), (1, .inr (.inr (some (11, 0)))), (2, .inr (.inr (some (12, 0)))), (3, .inl x3)], [], zmix MC MR) := by
  unfold mL_16 at h
  refine zblq Z rfl [(.aload 1, 1)] (S' := (729, [(0, .inr (.inr (some (2200, 0)))), (1, .inr (.inr (some (11, 0)))), (2, .inr (.inr (some (12, 0)))), (3, .inl x3)], [.inr (.inr (some (11, 0)))], zmix MC MR)) (b := true) (by decide +kernel) rfl rfl ?_
  obtain ⟨r114, MC114, hc114, h⟩ := zbd_inv h
  refine lw_callC hW Z (as := []) (st := []) (m11_ask_met (zGC_ok hW) rfl hc114) cwL_85 m11_ask_in m11_ask_se rfl ⟨by exact Nat.le_of_ble_eq_true rfl, by exact Nat.le_of_ble_eq_true rfl⟩ rfl (by decide +kernel) hnk ?_
  refine zblq Z rfl [(.aload 2, 1)] (S' := (733, [(0, .inr (.inr (some (2200, 0)))), (1, .inr (.inr (some (11, 0)))), (2, .inr (.inr (some (12, 0)))), (3, .inl x3)], [.inr (.inr (some (12, 0))), .inl r114], zmix MC114 MR)) (b := true) (by decide +kernel) rfl rfl ?_
  obtain ⟨r115, MR115, hc115, h⟩ := zbd_inv h
  refine lw_callR hW Z (as := []) (st := [.inl r114]) (m12_ask_met (zGR_ok hW) rfl hc115) cwL_88 m12_ask_in m12_ask_se rfl ⟨by exact Nat.le_of_ble_eq_true rfl, by exact Nat.le_of_ble_eq_true rfl⟩ rfl (by decide +kernel) hnk ?_
  refine zic_eq Z (off := 933) (tgt := 1669) (by decide +kernel) (by decide) (fun hb116 => ?_) (fun hb116 => ?_)
  · replace h := zite_t h hb116
    cases h
    exact K
  · replace h := zite_f h hb116
    cases h
def mL_17 (L : Nat) (xs : Nat → Int32) (x3 : Int32) (MC : cM) (MR : rM) : Option (cM × rM) := zgd (zin (x3 + (1 : Int32)) L) (zgd (zin (x3 + (2 : Int32)) L) (zgd (zin (x3 + (3 : Int32)) L) (zbd (m11_loud (xs (nx (x3 + (1 : Int32)))) (xs (nx (x3 + (2 : Int32)))) (xs (nx (x3 + (3 : Int32)))) MC) (fun r120 MC120 => zgd (zin (x3 + (1 : Int32)) L) (zgd (zin (x3 + (2 : Int32)) L) (zgd (zin (x3 + (3 : Int32)) L) (zbd (m12_loud (xs (nx (x3 + (1 : Int32)))) (xs (nx (x3 + (2 : Int32)))) (xs (nx (x3 + (3 : Int32)))) MR) (fun r124 MR124 => (if r120 = r124 then some (MC120, MR124) else none)))))))))
set_option maxHeartbeats 4000000 in
theorem mL_17_ok {p : Program} {l : Launch} {e : Env} {s : State} {m : MethodId} {args : Array Value} {below : List Frame} {meth : Method} {c : Code} {Q : State → Prop} {D : va_G} {ad : zR → Nat} {ca : Nat → ClassId} {A : Nat → Prop} {base n k : Nat} {L : Nat} {xs : Nat → Int32} {x3 : Int32} {MC MC' : cM} {MR MR' : rM} (hW : zWh zUA base ad A) (Z : zOK (zCm p l e room_1 s m args below meth c Q code 4 R_law tbL (zGL D ad ca A))) (hX : va_X (ad (2200, 0)) L xs s s.heap ∧ ad (2200, 0) < s.heap.size ∧ ¬ A (ad (2200, 0))) (hnk : n ≤ room_1.cells ∧ k ≤ room_1.slots) (h : mL_17 L xs x3 MC MR = some (MC', MR')) (K : zGo (zCm p l e room_1 s m args below meth c Q code 4 R_law tbL (zGL D ad ca A)) n k (1669, [(0, .inr (.inr (some (2200, 0)))), (1, .inr (.inr (some (11, 0)))), (2, .inr (.inr (some (12, 0)))), (3, .inl x3)], [], zmix MC' MR')) : zGo (zCm p l e room_1 s m args below meth c Q code 4 R_law tbL (zGL D ad ca A)) n k (741, [(0, .inr (.inr (some (2200, 0)))), (1, .inr (.inr (some (11, 0)))), (2, .inr (.inr (some (12, 0)))), (3, .inl x3)], [], zmix MC MR) := by
  unfold mL_17 at h
  refine zblq Z rfl [(.aload 1, 1), (.aload 0, 1), (.iload 3, 1), (.iconst 1, 1), (.iadd, 1)] (S' := (746, [(0, .inr (.inr (some (2200, 0)))), (1, .inr (.inr (some (11, 0)))), (2, .inr (.inr (some (12, 0)))), (3, .inl x3)], [.inl (x3 + (1 : Int32)), .inr (.inr (some (2200, 0))), .inr (.inr (some (11, 0)))], zmix MC MR)) (b := true) (by decide +kernel) rfl rfl ?_
  obtain ⟨hg117, h⟩ := zgd_inv h
  refine c_sld Z hX hg117 (by decide +kernel) ?_
  refine zblq Z rfl [(.aload 0, 1), (.iload 3, 1), (.iconst 2, 1), (.iadd, 1)] (S' := (751, [(0, .inr (.inr (some (2200, 0)))), (1, .inr (.inr (some (11, 0)))), (2, .inr (.inr (some (12, 0)))), (3, .inl x3)], [.inl (x3 + (2 : Int32)), .inr (.inr (some (2200, 0))), .inl (xs (nx (x3 + (1 : Int32)))), .inr (.inr (some (11, 0)))], zmix MC MR)) (b := true) (by decide +kernel) rfl rfl ?_
  obtain ⟨hg118, h⟩ := zgd_inv h
  refine c_sld Z hX hg118 (by decide +kernel) ?_
  refine zblq Z rfl [(.aload 0, 1), (.iload 3, 1), (.iconst 3, 1), (.iadd, 1)] (S' := (756, [(0, .inr (.inr (some (2200, 0)))), (1, .inr (.inr (some (11, 0)))), (2, .inr (.inr (some (12, 0)))), (3, .inl x3)], [.inl (x3 + (3 : Int32)), .inr (.inr (some (2200, 0))), .inl (xs (nx (x3 + (2 : Int32)))), .inl (xs (nx (x3 + (1 : Int32)))), .inr (.inr (some (11, 0)))], zmix MC MR)) (b := true) (by decide +kernel) rfl rfl ?_
  obtain ⟨hg119, h⟩ := zgd_inv h
  refine c_sld Z hX hg119 (by decide +kernel) ?_
  obtain ⟨r120, MC120, hc120, h⟩ := zbd_inv h
  refine lw_callC hW Z (as := [.inl (xs (nx (x3 + (1 : Int32)))), .inl (xs (nx (x3 + (2 : Int32)))), .inl (xs (nx (x3 + (3 : Int32))))]) (st := []) (m11_loud_met (zGC_ok hW) rfl hc120) cwL_89 m11_loud_in m11_loud_se rfl ⟨by exact Nat.le_of_ble_eq_true rfl, by exact Nat.le_of_ble_eq_true rfl⟩ rfl (by decide +kernel) hnk ?_
  refine zblq Z rfl [(.aload 2, 1), (.aload 0, 1), (.iload 3, 1), (.iconst 1, 1), (.iadd, 1)] (S' := (765, [(0, .inr (.inr (some (2200, 0)))), (1, .inr (.inr (some (11, 0)))), (2, .inr (.inr (some (12, 0)))), (3, .inl x3)], [.inl (x3 + (1 : Int32)), .inr (.inr (some (2200, 0))), .inr (.inr (some (12, 0))), .inl r120], zmix MC120 MR)) (b := true) (by decide +kernel) rfl rfl ?_
  obtain ⟨hg121, h⟩ := zgd_inv h
  refine c_sld Z hX hg121 (by decide +kernel) ?_
  refine zblq Z rfl [(.aload 0, 1), (.iload 3, 1), (.iconst 2, 1), (.iadd, 1)] (S' := (770, [(0, .inr (.inr (some (2200, 0)))), (1, .inr (.inr (some (11, 0)))), (2, .inr (.inr (some (12, 0)))), (3, .inl x3)], [.inl (x3 + (2 : Int32)), .inr (.inr (some (2200, 0))), .inl (xs (nx (x3 + (1 : Int32)))), .inr (.inr (some (12, 0))), .inl r120], zmix MC120 MR)) (b := true) (by decide +kernel) rfl rfl ?_
  obtain ⟨hg122, h⟩ := zgd_inv h
  refine c_sld Z hX hg122 (by decide +kernel) ?_
  refine zblq Z rfl [(.aload 0, 1), (.iload 3, 1), (.iconst 3, 1), (.iadd, 1)] (S' := (775, [(0, .inr (.inr (some (2200, 0)))), (1, .inr (.inr (some (11, 0)))), (2, .inr (.inr (some (12, 0)))), (3, .inl x3)], [.inl (x3 + (3 : Int32)), .inr (.inr (some (2200, 0))), .inl (xs (nx (x3 + (2 : Int32)))), .inl (xs (nx (x3 + (1 : Int32)))), .inr (.inr (some (12, 0))), .inl r120], zmix MC120 MR)) (b := true) (by decide +kernel) rfl rfl ?_
  obtain ⟨hg123, h⟩ := zgd_inv h
  refine c_sld Z hX hg123 (by decide +kernel) ?_
  obtain ⟨r124, MR124, hc124, h⟩ := zbd_inv h
  refine lw_callR hW Z (as := [.inl (xs (nx (x3 + (1 : Int32)))), .inl (xs (nx (x3 + (2 : Int32)))), .inl (xs (nx (x3 + (3 : Int32))))]) (st := [.inl r120]) (m12_loud_met (zGR_ok hW) rfl hc124) cwL_92 m12_loud_in m12_loud_se rfl ⟨by exact Nat.le_of_ble_eq_true rfl, by exact Nat.le_of_ble_eq_true rfl⟩ rfl (by decide +kernel) hnk ?_
  refine zic_eq Z (off := 890) (tgt := 1669) (by decide +kernel) (by decide) (fun hb125 => ?_) (fun hb125 => ?_)
  · replace h := zite_t h hb125
    cases h
    exact K
  · replace h := zite_f h hb125
    cases h
def mL_18 (L : Nat) (xs : Nat → Int32) (x3 : Int32) (MC : cM) (MR : rM) : Option (cM × rM) := zgd (zin (x3 + (1 : Int32)) L) (zgd (zin (x3 + (2 : Int32)) L) (zbd (m11_lies (xs (nx (x3 + (1 : Int32)))) (xs (nx (x3 + (2 : Int32)))) MC) (fun r128 MC128 => zgd (zin (x3 + (1 : Int32)) L) (zgd (zin (x3 + (2 : Int32)) L) (zbd (m12_lies (xs (nx (x3 + (1 : Int32)))) (xs (nx (x3 + (2 : Int32)))) MR) (fun r131 MR131 => (if r128 = r131 then some (MC128, MR131) else none)))))))
set_option maxHeartbeats 4000000 in
theorem mL_18_ok {p : Program} {l : Launch} {e : Env} {s : State} {m : MethodId} {args : Array Value} {below : List Frame} {meth : Method} {c : Code} {Q : State → Prop} {D : va_G} {ad : zR → Nat} {ca : Nat → ClassId} {A : Nat → Prop} {base n k : Nat} {L : Nat} {xs : Nat → Int32} {x3 : Int32} {MC MC' : cM} {MR MR' : rM} (hW : zWh zUA base ad A) (Z : zOK (zCm p l e room_1 s m args below meth c Q code 4 R_law tbL (zGL D ad ca A))) (hX : va_X (ad (2200, 0)) L xs s s.heap ∧ ad (2200, 0) < s.heap.size ∧ ¬ A (ad (2200, 0))) (hnk : n ≤ room_1.cells ∧ k ≤ room_1.slots) (h : mL_18 L xs x3 MC MR = some (MC', MR')) (K : zGo (zCm p l e room_1 s m args below meth c Q code 4 R_law tbL (zGL D ad ca A)) n k (1669, [(0, .inr (.inr (some (2200, 0)))), (1, .inr (.inr (some (11, 0)))), (2, .inr (.inr (some (12, 0)))), (3, .inl x3)], [], zmix MC' MR')) : zGo (zCm p l e room_1 s m args below meth c Q code 4 R_law tbL (zGL D ad ca A)) n k (784, [(0, .inr (.inr (some (2200, 0)))), (1, .inr (.inr (some (11, 0)))), (2, .inr (.inr (some (12, 0)))), (3, .inl x3)], [], zmix MC MR) := by
  unfold mL_18 at h
  refine zblq Z rfl [(.aload 1, 1), (.aload 0, 1), (.iload 3, 1), (.iconst 1, 1), (.iadd, 1)] (S' := (789, [(0, .inr (.inr (some (2200, 0)))), (1, .inr (.inr (some (11, 0)))), (2, .inr (.inr (some (12, 0)))), (3, .inl x3)], [.inl (x3 + (1 : Int32)), .inr (.inr (some (2200, 0))), .inr (.inr (some (11, 0)))], zmix MC MR)) (b := true) (by decide +kernel) rfl rfl ?_
  obtain ⟨hg126, h⟩ := zgd_inv h
  refine c_sld Z hX hg126 (by decide +kernel) ?_
  refine zblq Z rfl [(.aload 0, 1), (.iload 3, 1), (.iconst 2, 1), (.iadd, 1)] (S' := (794, [(0, .inr (.inr (some (2200, 0)))), (1, .inr (.inr (some (11, 0)))), (2, .inr (.inr (some (12, 0)))), (3, .inl x3)], [.inl (x3 + (2 : Int32)), .inr (.inr (some (2200, 0))), .inl (xs (nx (x3 + (1 : Int32)))), .inr (.inr (some (11, 0)))], zmix MC MR)) (b := true) (by decide +kernel) rfl rfl ?_
  obtain ⟨hg127, h⟩ := zgd_inv h
  refine c_sld Z hX hg127 (by decide +kernel) ?_
  obtain ⟨r128, MC128, hc128, h⟩ := zbd_inv h
  refine lw_callC hW Z (as := [.inl (xs (nx (x3 + (1 : Int32)))), .inl (xs (nx (x3 + (2 : Int32))))]) (st := []) (m11_lies_met (zGC_ok hW) rfl hc128) cwL_93 m11_lies_in m11_lies_se rfl ⟨by exact Nat.le_of_ble_eq_true rfl, by exact Nat.le_of_ble_eq_true rfl⟩ rfl (by decide +kernel) hnk ?_
  refine zblq Z rfl [(.aload 2, 1), (.aload 0, 1), (.iload 3, 1), (.iconst 1, 1), (.iadd, 1)] (S' := (803, [(0, .inr (.inr (some (2200, 0)))), (1, .inr (.inr (some (11, 0)))), (2, .inr (.inr (some (12, 0)))), (3, .inl x3)], [.inl (x3 + (1 : Int32)), .inr (.inr (some (2200, 0))), .inr (.inr (some (12, 0))), .inl r128], zmix MC128 MR)) (b := true) (by decide +kernel) rfl rfl ?_
  obtain ⟨hg129, h⟩ := zgd_inv h
  refine c_sld Z hX hg129 (by decide +kernel) ?_
  refine zblq Z rfl [(.aload 0, 1), (.iload 3, 1), (.iconst 2, 1), (.iadd, 1)] (S' := (808, [(0, .inr (.inr (some (2200, 0)))), (1, .inr (.inr (some (11, 0)))), (2, .inr (.inr (some (12, 0)))), (3, .inl x3)], [.inl (x3 + (2 : Int32)), .inr (.inr (some (2200, 0))), .inl (xs (nx (x3 + (1 : Int32)))), .inr (.inr (some (12, 0))), .inl r128], zmix MC128 MR)) (b := true) (by decide +kernel) rfl rfl ?_
  obtain ⟨hg130, h⟩ := zgd_inv h
  refine c_sld Z hX hg130 (by decide +kernel) ?_
  obtain ⟨r131, MR131, hc131, h⟩ := zbd_inv h
  refine lw_callR hW Z (as := [.inl (xs (nx (x3 + (1 : Int32)))), .inl (xs (nx (x3 + (2 : Int32))))]) (st := [.inl r128]) (m12_lies_met (zGR_ok hW) rfl hc131) cwL_96 m12_lies_in m12_lies_se rfl ⟨by exact Nat.le_of_ble_eq_true rfl, by exact Nat.le_of_ble_eq_true rfl⟩ rfl (by decide +kernel) hnk ?_
  refine zic_eq Z (off := 857) (tgt := 1669) (by decide +kernel) (by decide) (fun hb132 => ?_) (fun hb132 => ?_)
  · replace h := zite_t h hb132
    cases h
    exact K
  · replace h := zite_f h hb132
    cases h
def mL_19 (L : Nat) (xs : Nat → Int32) (x3 : Int32) (MC : cM) (MR : rM) : Option (cM × rM) := zgd (zin (x3 + (1 : Int32)) L) (zbd (m11_result (xs (nx (x3 + (1 : Int32)))) MC) (fun r134 MC134 => zgd (zin (x3 + (1 : Int32)) L) (zbd (m12_result (xs (nx (x3 + (1 : Int32)))) MR) (fun r136 MR136 => (if r134 = r136 then some (MC134, MR136) else none)))))
set_option maxHeartbeats 4000000 in
theorem mL_19_ok {p : Program} {l : Launch} {e : Env} {s : State} {m : MethodId} {args : Array Value} {below : List Frame} {meth : Method} {c : Code} {Q : State → Prop} {D : va_G} {ad : zR → Nat} {ca : Nat → ClassId} {A : Nat → Prop} {base n k : Nat} {L : Nat} {xs : Nat → Int32} {x3 : Int32} {MC MC' : cM} {MR MR' : rM} (hW : zWh zUA base ad A) (Z : zOK (zCm p l e room_1 s m args below meth c Q code 4 R_law tbL (zGL D ad ca A))) (hX : va_X (ad (2200, 0)) L xs s s.heap ∧ ad (2200, 0) < s.heap.size ∧ ¬ A (ad (2200, 0))) (hnk : n ≤ room_1.cells ∧ k ≤ room_1.slots) (h : mL_19 L xs x3 MC MR = some (MC', MR')) (K : zGo (zCm p l e room_1 s m args below meth c Q code 4 R_law tbL (zGL D ad ca A)) n k (1669, [(0, .inr (.inr (some (2200, 0)))), (1, .inr (.inr (some (11, 0)))), (2, .inr (.inr (some (12, 0)))), (3, .inl x3)], [], zmix MC' MR')) : zGo (zCm p l e room_1 s m args below meth c Q code 4 R_law tbL (zGL D ad ca A)) n k (817, [(0, .inr (.inr (some (2200, 0)))), (1, .inr (.inr (some (11, 0)))), (2, .inr (.inr (some (12, 0)))), (3, .inl x3)], [], zmix MC MR) := by
  unfold mL_19 at h
  refine zblq Z rfl [(.aload 1, 1), (.aload 0, 1), (.iload 3, 1), (.iconst 1, 1), (.iadd, 1)] (S' := (822, [(0, .inr (.inr (some (2200, 0)))), (1, .inr (.inr (some (11, 0)))), (2, .inr (.inr (some (12, 0)))), (3, .inl x3)], [.inl (x3 + (1 : Int32)), .inr (.inr (some (2200, 0))), .inr (.inr (some (11, 0)))], zmix MC MR)) (b := true) (by decide +kernel) rfl rfl ?_
  obtain ⟨hg133, h⟩ := zgd_inv h
  refine c_sld Z hX hg133 (by decide +kernel) ?_
  obtain ⟨r134, MC134, hc134, h⟩ := zbd_inv h
  refine lw_callC hW Z (as := [.inl (xs (nx (x3 + (1 : Int32))))]) (st := []) (m11_result_met (zGC_ok hW) rfl hc134) cwL_97 m11_result_in m11_result_se rfl ⟨by exact Nat.le_of_ble_eq_true rfl, by exact Nat.le_of_ble_eq_true rfl⟩ rfl (by decide +kernel) hnk ?_
  refine zblq Z rfl [(.aload 2, 1), (.aload 0, 1), (.iload 3, 1), (.iconst 1, 1), (.iadd, 1)] (S' := (831, [(0, .inr (.inr (some (2200, 0)))), (1, .inr (.inr (some (11, 0)))), (2, .inr (.inr (some (12, 0)))), (3, .inl x3)], [.inl (x3 + (1 : Int32)), .inr (.inr (some (2200, 0))), .inr (.inr (some (12, 0))), .inl r134], zmix MC134 MR)) (b := true) (by decide +kernel) rfl rfl ?_
  obtain ⟨hg135, h⟩ := zgd_inv h
  refine c_sld Z hX hg135 (by decide +kernel) ?_
  obtain ⟨r136, MR136, hc136, h⟩ := zbd_inv h
  refine lw_callR hW Z (as := [.inl (xs (nx (x3 + (1 : Int32))))]) (st := [.inl r134]) (m12_result_met (zGR_ok hW) rfl hc136) cwL_100 m12_result_in m12_result_se rfl ⟨by exact Nat.le_of_ble_eq_true rfl, by exact Nat.le_of_ble_eq_true rfl⟩ rfl (by decide +kernel) hnk ?_
  refine zic_eq Z (off := 834) (tgt := 1669) (by decide +kernel) (by decide) (fun hb137 => ?_) (fun hb137 => ?_)
  · replace h := zite_t h hb137
    cases h
    exact K
  · replace h := zite_f h hb137
    cases h
def mL_20 (L : Nat) (xs : Nat → Int32) (x3 : Int32) (MC : cM) (MR : rM) : Option (cM × rM) := zgd (zin (x3 + (1 : Int32)) L) (zgd (zin (x3 + (2 : Int32)) L) (zbd (m11_foretold (xs (nx (x3 + (1 : Int32)))) (xs (nx (x3 + (2 : Int32)))) MC) (fun r140 MC140 => zgd (zin (x3 + (1 : Int32)) L) (zgd (zin (x3 + (2 : Int32)) L) (zbd (m12_foretold (xs (nx (x3 + (1 : Int32)))) (xs (nx (x3 + (2 : Int32)))) MR) (fun r143 MR143 => (if r140 = r143 then some (MC140, MR143) else none)))))))
set_option maxHeartbeats 4000000 in
theorem mL_20_ok {p : Program} {l : Launch} {e : Env} {s : State} {m : MethodId} {args : Array Value} {below : List Frame} {meth : Method} {c : Code} {Q : State → Prop} {D : va_G} {ad : zR → Nat} {ca : Nat → ClassId} {A : Nat → Prop} {base n k : Nat} {L : Nat} {xs : Nat → Int32} {x3 : Int32} {MC MC' : cM} {MR MR' : rM} (hW : zWh zUA base ad A) (Z : zOK (zCm p l e room_1 s m args below meth c Q code 4 R_law tbL (zGL D ad ca A))) (hX : va_X (ad (2200, 0)) L xs s s.heap ∧ ad (2200, 0) < s.heap.size ∧ ¬ A (ad (2200, 0))) (hnk : n ≤ room_1.cells ∧ k ≤ room_1.slots) (h : mL_20 L xs x3 MC MR = some (MC', MR')) (K : zGo (zCm p l e room_1 s m args below meth c Q code 4 R_law tbL (zGL D ad ca A)) n k (1669, [(0, .inr (.inr (some (2200, 0)))), (1, .inr (.inr (some (11, 0)))), (2, .inr (.inr (some (12, 0)))), (3, .inl x3)], [], zmix MC' MR')) : zGo (zCm p l e room_1 s m args below meth c Q code 4 R_law tbL (zGL D ad ca A)) n k (840, [(0, .inr (.inr (some (2200, 0)))), (1, .inr (.inr (some (11, 0)))), (2, .inr (.inr (some (12, 0)))), (3, .inl x3)], [], zmix MC MR) := by
  unfold mL_20 at h
  refine zblq Z rfl [(.aload 1, 1), (.aload 0, 1), (.iload 3, 1), (.iconst 1, 1), (.iadd, 1)] (S' := (845, [(0, .inr (.inr (some (2200, 0)))), (1, .inr (.inr (some (11, 0)))), (2, .inr (.inr (some (12, 0)))), (3, .inl x3)], [.inl (x3 + (1 : Int32)), .inr (.inr (some (2200, 0))), .inr (.inr (some (11, 0)))], zmix MC MR)) (b := true) (by decide +kernel) rfl rfl ?_
  obtain ⟨hg138, h⟩ := zgd_inv h
  refine c_sld Z hX hg138 (by decide +kernel) ?_
  refine zblq Z rfl [(.aload 0, 1), (.iload 3, 1), (.iconst 2, 1), (.iadd, 1)] (S' := (850, [(0, .inr (.inr (some (2200, 0)))), (1, .inr (.inr (some (11, 0)))), (2, .inr (.inr (some (12, 0)))), (3, .inl x3)], [.inl (x3 + (2 : Int32)), .inr (.inr (some (2200, 0))), .inl (xs (nx (x3 + (1 : Int32)))), .inr (.inr (some (11, 0)))], zmix MC MR)) (b := true) (by decide +kernel) rfl rfl ?_
  obtain ⟨hg139, h⟩ := zgd_inv h
  refine c_sld Z hX hg139 (by decide +kernel) ?_
  obtain ⟨r140, MC140, hc140, h⟩ := zbd_inv h
  refine lw_callC hW Z (as := [.inl (xs (nx (x3 + (1 : Int32)))), .inl (xs (nx (x3 + (2 : Int32))))]) (st := []) (m11_foretold_met (zGC_ok hW) rfl hc140) cwL_101 m11_foretold_in m11_foretold_se rfl ⟨by exact Nat.le_of_ble_eq_true rfl, by exact Nat.le_of_ble_eq_true rfl⟩ rfl (by decide +kernel) hnk ?_
  refine zblq Z rfl [(.aload 2, 1), (.aload 0, 1), (.iload 3, 1), (.iconst 1, 1), (.iadd, 1)] (S' := (859, [(0, .inr (.inr (some (2200, 0)))), (1, .inr (.inr (some (11, 0)))), (2, .inr (.inr (some (12, 0)))), (3, .inl x3)], [.inl (x3 + (1 : Int32)), .inr (.inr (some (2200, 0))), .inr (.inr (some (12, 0))), .inl r140], zmix MC140 MR)) (b := true) (by decide +kernel) rfl rfl ?_
  obtain ⟨hg141, h⟩ := zgd_inv h
  refine c_sld Z hX hg141 (by decide +kernel) ?_
  refine zblq Z rfl [(.aload 0, 1), (.iload 3, 1), (.iconst 2, 1), (.iadd, 1)] (S' := (864, [(0, .inr (.inr (some (2200, 0)))), (1, .inr (.inr (some (11, 0)))), (2, .inr (.inr (some (12, 0)))), (3, .inl x3)], [.inl (x3 + (2 : Int32)), .inr (.inr (some (2200, 0))), .inl (xs (nx (x3 + (1 : Int32)))), .inr (.inr (some (12, 0))), .inl r140], zmix MC140 MR)) (b := true) (by decide +kernel) rfl rfl ?_
  obtain ⟨hg142, h⟩ := zgd_inv h
  refine c_sld Z hX hg142 (by decide +kernel) ?_
  obtain ⟨r143, MR143, hc143, h⟩ := zbd_inv h
  refine lw_callR hW Z (as := [.inl (xs (nx (x3 + (1 : Int32)))), .inl (xs (nx (x3 + (2 : Int32))))]) (st := [.inl r140]) (m12_foretold_met (zGR_ok hW) rfl hc143) cwL_104 m12_foretold_in m12_foretold_se rfl ⟨by exact Nat.le_of_ble_eq_true rfl, by exact Nat.le_of_ble_eq_true rfl⟩ rfl (by decide +kernel) hnk ?_
  refine zic_eq Z (off := 801) (tgt := 1669) (by decide +kernel) (by decide) (fun hb144 => ?_) (fun hb144 => ?_)
  · replace h := zite_t h hb144
    cases h
    exact K
  · replace h := zite_f h hb144
    cases h
def mL_21 (L : Nat) (xs : Nat → Int32) (x3 : Int32) (MC : cM) (MR : rM) : Option (cM × rM) := zgd (zin (x3 + (1 : Int32)) L) (zbd (m11_life (xs (nx (x3 + (1 : Int32)))) MC) (fun r146 MC146 => zgd (zin (x3 + (1 : Int32)) L) (zbd (m12_life (xs (nx (x3 + (1 : Int32)))) MR) (fun r148 MR148 => (if r146 = r148 then some (MC146, MR148) else none)))))
set_option maxHeartbeats 4000000 in
theorem mL_21_ok {p : Program} {l : Launch} {e : Env} {s : State} {m : MethodId} {args : Array Value} {below : List Frame} {meth : Method} {c : Code} {Q : State → Prop} {D : va_G} {ad : zR → Nat} {ca : Nat → ClassId} {A : Nat → Prop} {base n k : Nat} {L : Nat} {xs : Nat → Int32} {x3 : Int32} {MC MC' : cM} {MR MR' : rM} (hW : zWh zUA base ad A) (Z : zOK (zCm p l e room_1 s m args below meth c Q code 4 R_law tbL (zGL D ad ca A))) (hX : va_X (ad (2200, 0)) L xs s s.heap ∧ ad (2200, 0) < s.heap.size ∧ ¬ A (ad (2200, 0))) (hnk : n ≤ room_1.cells ∧ k ≤ room_1.slots) (h : mL_21 L xs x3 MC MR = some (MC', MR')) (K : zGo (zCm p l e room_1 s m args below meth c Q code 4 R_law tbL (zGL D ad ca A)) n k (1669, [(0, .inr (.inr (some (2200, 0)))), (1, .inr (.inr (some (11, 0)))), (2, .inr (.inr (some (12, 0)))), (3, .inl x3)], [], zmix MC' MR')) : zGo (zCm p l e room_1 s m args below meth c Q code 4 R_law tbL (zGL D ad ca A)) n k (873, [(0, .inr (.inr (some (2200, 0)))), (1, .inr (.inr (some (11, 0)))), (2, .inr (.inr (some (12, 0)))), (3, .inl x3)], [], zmix MC MR) := by
  unfold mL_21 at h
  refine zblq Z rfl [(.aload 1, 1), (.aload 0, 1), (.iload 3, 1), (.iconst 1, 1), (.iadd, 1)] (S' := (878, [(0, .inr (.inr (some (2200, 0)))), (1, .inr (.inr (some (11, 0)))), (2, .inr (.inr (some (12, 0)))), (3, .inl x3)], [.inl (x3 + (1 : Int32)), .inr (.inr (some (2200, 0))), .inr (.inr (some (11, 0)))], zmix MC MR)) (b := true) (by decide +kernel) rfl rfl ?_
  obtain ⟨hg145, h⟩ := zgd_inv h
  refine c_sld Z hX hg145 (by decide +kernel) ?_
  obtain ⟨r146, MC146, hc146, h⟩ := zbd_inv h
  refine lw_callC hW Z (as := [.inl (xs (nx (x3 + (1 : Int32))))]) (st := []) (m11_life_met (zGC_ok hW) rfl hc146) cwL_105 m11_life_in m11_life_se rfl ⟨by exact Nat.le_of_ble_eq_true rfl, by exact Nat.le_of_ble_eq_true rfl⟩ rfl (by decide +kernel) hnk ?_
  refine zblq Z rfl [(.aload 2, 1), (.aload 0, 1), (.iload 3, 1), (.iconst 1, 1), (.iadd, 1)] (S' := (887, [(0, .inr (.inr (some (2200, 0)))), (1, .inr (.inr (some (11, 0)))), (2, .inr (.inr (some (12, 0)))), (3, .inl x3)], [.inl (x3 + (1 : Int32)), .inr (.inr (some (2200, 0))), .inr (.inr (some (12, 0))), .inl r146], zmix MC146 MR)) (b := true) (by decide +kernel) rfl rfl ?_
  obtain ⟨hg147, h⟩ := zgd_inv h
  refine c_sld Z hX hg147 (by decide +kernel) ?_
  obtain ⟨r148, MR148, hc148, h⟩ := zbd_inv h
  refine lw_callR hW Z (as := [.inl (xs (nx (x3 + (1 : Int32))))]) (st := [.inl r146]) (m12_life_met (zGR_ok hW) rfl hc148) cwL_108 m12_life_in m12_life_se rfl ⟨by exact Nat.le_of_ble_eq_true rfl, by exact Nat.le_of_ble_eq_true rfl⟩ rfl (by decide +kernel) hnk ?_
  refine zic_eq Z (off := 778) (tgt := 1669) (by decide +kernel) (by decide) (fun hb149 => ?_) (fun hb149 => ?_)
  · replace h := zite_t h hb149
    cases h
    exact K
  · replace h := zite_f h hb149
    cases h
