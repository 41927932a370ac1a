abbrev q12_result : ByteArray × Nat × String × zT := (cX12_result, 4, RX12, tbX12)
def m12_result_75 (x1 : Int32) (x2 : Int32) (M : rM) : Option (Int32 × rM) := (if x2 = 0 then some ((-1 : Int32), M) else (if (2 : Int32) ≤ x1 then (if (3 : Int32) ≤ (rg M 12 0 40) then zgd (zin (53 : Int32) 55 && true) (zbd (m12_common (rg M 1316 0 (nx (53 : Int32))) x2 M) (fun r4 M4 => (if x1 = (5 : Int32) then zgd (zin (53 : Int32) 55 && (znz r4 && true)) (some ((rg M4 1316 0 (nx (53 : Int32))) / r4, M4)) else zgd (znz r4 && true) (some (x2 / r4, M4))))) else (if x1 = (5 : Int32) then zgd (zin (((50 : Int32) + (rg M 12 0 40)) - (1 : Int32)) 55 && true) (some (rg M 1316 0 (nx (((50 : Int32) + (rg M 12 0 40)) - (1 : Int32))), M)) else some ((1 : Int32), M))) else zgd (zin ((50 : Int32) + x1) 55 && true) (some (rg M 1316 0 (nx ((50 : Int32) + x1)), M))))
theorem m12_result_75_ok {X : zX} {G : zG} (Hy : zHy X G q12_result zcR 1 24 (some .int)) {r : Int32} {M' : rM} (hE : zEnd X G (some (.inl r)) (zfR M')) (x1 : Int32) (x2 : Int32) (M : rM) (h : m12_result_75 x1 x2 M = some (r, M')) : zGo (X, q12_result, G) 0 0 (75, [(0, .inr (.inr (some (12, 0)))), (1, .inl x1), (2, .inl x2)], [], zfR M) := by
  unfold m12_result_75 at h
  refine zblq Hy.1 Hy.2.1 [(.iload 2, 1)] (S' := (76, [(0, .inr (.inr (some (12, 0)))), (1, .inl x1), (2, .inl x2)], [.inl x2], zfR M)) (b := true) (by decide +kernel) rfl rfl ?_
  refine zif_ne Hy.1 (off := 5) (tgt := 81) (by decide +kernel) (by decide) (fun hb13 => ?_) (fun hb13 => ?_)
  · replace h := zite_f h hb13
    refine zblq Hy.1 Hy.2.1 [(.iload 1, 1), (.iconst 2, 1)] (S' := (83, [(0, .inr (.inr (some (12, 0)))), (1, .inl x1), (2, .inl x2)], [.inl (2 : Int32), .inl x1], zfR M)) (b := true) (by decide +kernel) rfl rfl ?_
    refine zic_ge Hy.1 (off := 13) (tgt := 96) (by decide +kernel) (by decide) (fun hb12 => ?_) (fun hb12 => ?_)
    · replace h := zite_t h hb12
      refine zblq Hy.1 Hy.2.1 [(.aload 0, 1), (.multianewarray 12 40, 3), (.iconst 3, 1)] (S' := (101, [(0, .inr (.inr (some (12, 0)))), (1, .inl x1), (2, .inl x2)], [.inl (3 : Int32), .inl (rg M 12 0 40)], zfR M)) (b := true) (by decide +kernel) rfl rfl ?_
      refine zic_ge Hy.1 (off := 27) (tgt := 128) (by decide +kernel) (by decide) (fun hb10 => ?_) (fun hb10 => ?_)
      · replace h := zite_t h hb10
        obtain ⟨hg3, h⟩ := zgd_inv h
        refine zblq Hy.1 Hy.2.1 [(.aload 0, 1), (.getfield 1216, 3), (.iconst 53, 2), (.iaload, 1), (.iload 2, 1)] (S' := (136, [(0, .inr (.inr (some (12, 0)))), (1, .inl x1), (2, .inl x2)], [.inl x2, .inl (rg M 1316 0 (nx (53 : Int32)))], zfR M)) (b := zin (53 : Int32) 55 && true) (by decide +kernel) rfl hg3 ?_
        obtain ⟨r4, M4, hc4, h⟩ := zbd_inv h
        refine zcallS Hy.1 (as := [.inl (rg M 1316 0 (nx (53 : Int32))), .inl x2]) (st := []) (m12_common_met (zOK_G Hy.1) Hy.2.1 hc4) cw12_342 m12_common_in rfl (zroom Hy.2.2 ⟨by decide, by decide⟩) rfl (by decide +kernel) ⟨Nat.zero_le _, Nat.zero_le _⟩ ?_
        refine zblq Hy.1 Hy.2.1 [(.istore 3, 1), (.iload 1, 1), (.iconst 5, 1)] (S' := (142, [(0, .inr (.inr (some (12, 0)))), (1, .inl x1), (2, .inl x2), (3, .inl r4)], [.inl (5 : Int32), .inl x1], zfR M4)) (b := true) (by decide +kernel) rfl rfl ?_
        refine zic_ne Hy.1 (off := 15) (tgt := 157) (by decide +kernel) (by decide) (fun hb7 => ?_) (fun hb7 => ?_)
        · replace h := zite_f h hb7
          obtain ⟨hg5, h⟩ := zgd_inv h
          refine zblq Hy.1 Hy.2.1 [(.iload 2, 1), (.iload 3, 1), (.idiv, 1)] (S' := (160, [(0, .inr (.inr (some (12, 0)))), (1, .inl x1), (2, .inl x2), (3, .inl r4)], [.inl (x2 / r4)], zfR M4)) (b := znz r4 && true) (by decide +kernel) rfl hg5 ?_
          cases h
          exact zret_i Hy.1 Hy.2.2 hE (by decide +kernel)
        · replace h := zite_t h hb7
          obtain ⟨hg6, h⟩ := zgd_inv h
          refine zblq Hy.1 Hy.2.1 [(.aload 0, 1), (.getfield 1216, 3), (.iconst 53, 2), (.iaload, 1), (.iload 3, 1), (.idiv, 1), (.ldc 160, 3)] (S' := (160, [(0, .inr (.inr (some (12, 0)))), (1, .inl x1), (2, .inl x2), (3, .inl r4)], [.inl ((rg M4 1316 0 (nx (53 : Int32))) / r4)], zfR M4)) (b := zin (53 : Int32) 55 && (znz r4 && true)) (by decide +kernel) rfl hg6 ?_
          cases h
          exact zret_i Hy.1 Hy.2.2 hE (by decide +kernel)
      · replace h := zite_f h hb10
        refine zblq Hy.1 Hy.2.1 [(.iload 1, 1), (.iconst 5, 1)] (S' := (106, [(0, .inr (.inr (some (12, 0)))), (1, .inl x1), (2, .inl x2)], [.inl (5 : Int32), .inl x1], zfR M)) (b := true) (by decide +kernel) rfl rfl ?_
        refine zic_ne Hy.1 (off := 20) (tgt := 126) (by decide +kernel) (by decide) (fun hb9 => ?_) (fun hb9 => ?_)
        · replace h := zite_f h hb9
          refine zblq Hy.1 Hy.2.1 [(.iconst 1, 1)] (S' := (127, [(0, .inr (.inr (some (12, 0)))), (1, .inl x1), (2, .inl x2)], [.inl (1 : Int32)], zfR M)) (b := true) (by decide +kernel) rfl rfl ?_
          cases h
          exact zret_i Hy.1 Hy.2.2 hE (by decide +kernel)
        · replace h := zite_t h hb9
          obtain ⟨hg8, h⟩ := zgd_inv h
          refine zblq Hy.1 Hy.2.1 [(.aload 0, 1), (.getfield 1216, 3), (.iconst 50, 2), (.aload 0, 1), (.multianewarray 12 40, 3), (.iadd, 1), (.iconst 1, 1), (.isub, 1), (.iaload, 1), (.ldc 127, 3)] (S' := (127, [(0, .inr (.inr (some (12, 0)))), (1, .inl x1), (2, .inl x2)], [.inl (rg M 1316 0 (nx (((50 : Int32) + (rg M 12 0 40)) - (1 : Int32))))], zfR M)) (b := zin (((50 : Int32) + (rg M 12 0 40)) - (1 : Int32)) 55 && true) (by decide +kernel) rfl hg8 ?_
          cases h
          exact zret_i Hy.1 Hy.2.2 hE (by decide +kernel)
    · replace h := zite_f h hb12
      obtain ⟨hg11, h⟩ := zgd_inv h
      refine zblq Hy.1 Hy.2.1 [(.aload 0, 1), (.getfield 1216, 3), (.iconst 50, 2), (.iload 1, 1), (.iadd, 1), (.iaload, 1)] (S' := (95, [(0, .inr (.inr (some (12, 0)))), (1, .inl x1), (2, .inl x2)], [.inl (rg M 1316 0 (nx ((50 : Int32) + x1)))], zfR M)) (b := zin ((50 : Int32) + x1) 55 && true) (by decide +kernel) rfl hg11 ?_
      cases h
      exact zret_i Hy.1 Hy.2.2 hE (by decide +kernel)
  · replace h := zite_t h hb13
    refine zblq Hy.1 Hy.2.1 [(.iconst (-1), 1)] (S' := (80, [(0, .inr (.inr (some (12, 0)))), (1, .inl x1), (2, .inl x2)], [.inl (-1 : Int32)], zfR M)) (b := true) (by decide +kernel) rfl rfl ?_
    cases h
    exact zret_i Hy.1 Hy.2.2 hE (by decide +kernel)
def m12_result_51 (x1 : Int32) (x2 : Int32) (M : rM) : Option (Int32 × rM) := (if x1 ≤ (4 : Int32) then m12_result_75 x1 x2 M else (if (rg M 12 0 40) = (4 : Int32) then (if x1 = (5 : Int32) then some (x2, M) else some ((1 : Int32), M)) else m12_result_75 x1 x2 M))
theorem m12_result_51_ok {X : zX} {G : zG} (Hy : zHy X G q12_result zcR 1 24 (some .int)) {r : Int32} {M' : rM} (hE : zEnd X G (some (.inl r)) (zfR M')) (x1 : Int32) (x2 : Int32) (M : rM) (h : m12_result_51 x1 x2 M = some (r, M')) : zGo (X, q12_result, G) 0 0 (51, [(0, .inr (.inr (some (12, 0)))), (1, .inl x1), (2, .inl x2)], [], zfR M) := by
  unfold m12_result_51 at h
  refine zblq Hy.1 Hy.2.1 [(.iload 1, 1), (.iconst 4, 1)] (S' := (53, [(0, .inr (.inr (some (12, 0)))), (1, .inl x1), (2, .inl x2)], [.inl (4 : Int32), .inl x1], zfR M)) (b := true) (by decide +kernel) rfl rfl ?_
  refine zic_le Hy.1 (off := 22) (tgt := 75) (by decide +kernel) (by decide) (fun hb16 => ?_) (fun hb16 => ?_)
  · replace h := zite_t h hb16
    refine zGo_keep [0, 1, 2] rfl ?_
    exact m12_result_75_ok Hy hE x1 x2 M h
  · replace h := zite_f h hb16
    refine zblq Hy.1 Hy.2.1 [(.aload 0, 1), (.multianewarray 12 40, 3), (.iconst 4, 1)] (S' := (61, [(0, .inr (.inr (some (12, 0)))), (1, .inl x1), (2, .inl x2)], [.inl (4 : Int32), .inl (rg M 12 0 40)], zfR M)) (b := true) (by decide +kernel) rfl rfl ?_
    refine zic_ne Hy.1 (off := 14) (tgt := 75) (by decide +kernel) (by decide) (fun hb15 => ?_) (fun hb15 => ?_)
    · replace h := zite_f h hb15
      refine zGo_keep [0, 1, 2] rfl ?_
      exact m12_result_75_ok Hy hE x1 x2 M h
    · replace h := zite_t h hb15
      refine zblq Hy.1 Hy.2.1 [(.iload 1, 1), (.iconst 5, 1)] (S' := (66, [(0, .inr (.inr (some (12, 0)))), (1, .inl x1), (2, .inl x2)], [.inl (5 : Int32), .inl x1], zfR M)) (b := true) (by decide +kernel) rfl rfl ?_
      refine zic_ne Hy.1 (off := 7) (tgt := 73) (by decide +kernel) (by decide) (fun hb14 => ?_) (fun hb14 => ?_)
      · replace h := zite_f h hb14
        refine zblq Hy.1 Hy.2.1 [(.iconst 1, 1)] (S' := (74, [(0, .inr (.inr (some (12, 0)))), (1, .inl x1), (2, .inl x2)], [.inl (1 : Int32)], zfR M)) (b := true) (by decide +kernel) rfl rfl ?_
        cases h
        exact zret_i Hy.1 Hy.2.2 hE (by decide +kernel)
      · replace h := zite_t h hb14
        refine zblq Hy.1 Hy.2.1 [(.iload 2, 1), (.ldc 74, 3)] (S' := (74, [(0, .inr (.inr (some (12, 0)))), (1, .inl x1), (2, .inl x2)], [.inl x2], zfR M)) (b := true) (by decide +kernel) rfl rfl ?_
        cases h
        exact zret_i Hy.1 Hy.2.2 hE (by decide +kernel)
def m12_result (x1 : Int32) (M : rM) : Option (Int32 × rM) := zbd (m12_in x1 (0 : Int32) (6 : Int32) M) (fun r1 M1 => (if r1 = 0 then some ((-3 : Int32), M1) else (if (rg M1 12 0 40) = 0 then some ((-4 : Int32), M1) else zgd (zin (52 : Int32) 55 && true) ((if x1 ≤ (1 : Int32) then m12_result_51 x1 (rg M1 1316 0 (nx (52 : Int32))) M1 else (if (5 : Int32) ≤ x1 then m12_result_51 x1 (rg M1 1316 0 (nx (52 : Int32))) M1 else zgd (zin ((50 : Int32) + x1) 55 && true) (some (rg M1 1316 0 (nx ((50 : Int32) + x1)), M1))))))))
theorem m12_result_ok {X : zX} {G : zG} (Hy : zHy X G q12_result zcR 1 24 (some .int)) {r : Int32} {M' : rM} (hE : zEnd X G (some (.inl r)) (zfR M')) (x1 : Int32) (M : rM) (h : m12_result x1 M = some (r, M')) : zGo (X, q12_result, G) 0 0 (0, [(0, .inr (.inr (some (12, 0)))), (1, .inl x1)], [], zfR M) := by
  unfold m12_result at h
  refine zblq Hy.1 Hy.2.1 [(.iload 1, 1), (.iconst 0, 1), (.iconst 6, 2)] (S' := (4, [(0, .inr (.inr (some (12, 0)))), (1, .inl x1)], [.inl (6 : Int32), .inl (0 : Int32), .inl x1], zfR M)) (b := true) (by decide +kernel) rfl rfl ?_
  obtain ⟨r1, M1, hc1, h⟩ := zbd_inv h
  refine zcallS Hy.1 (as := [.inl x1, .inl (0 : Int32), .inl (6 : Int32)]) (st := []) (m12_in_met (zOK_G Hy.1) Hy.2.1 hc1) cw12_171 m12_in_in rfl (zroom Hy.2.2 ⟨by decide, by decide⟩) rfl (by decide +kernel) ⟨Nat.zero_le _, Nat.zero_le _⟩ ?_
  refine zif_ne Hy.1 (off := 6) (tgt := 13) (by decide +kernel) (by decide) (fun hb21 => ?_) (fun hb21 => ?_)
  · replace h := zite_f h hb21
    refine zblq Hy.1 Hy.2.1 [(.aload 0, 1), (.multianewarray 12 40, 3)] (S' := (17, [(0, .inr (.inr (some (12, 0)))), (1, .inl x1)], [.inl (rg M1 12 0 40)], zfR M1)) (b := true) (by decide +kernel) rfl rfl ?_
    refine zif_ne Hy.1 (off := 6) (tgt := 23) (by decide +kernel) (by decide) (fun hb20 => ?_) (fun hb20 => ?_)
    · replace h := zite_f h hb20
      obtain ⟨hg2, h⟩ := zgd_inv h
      refine zblq Hy.1 Hy.2.1 [(.aload 0, 1), (.getfield 1216, 3), (.iconst 52, 2), (.iaload, 1), (.istore 2, 1), (.iload 1, 1), (.iconst 1, 1)] (S' := (33, [(0, .inr (.inr (some (12, 0)))), (1, .inl x1), (2, .inl (rg M1 1316 0 (nx (52 : Int32))))], [.inl (1 : Int32), .inl x1], zfR M1)) (b := zin (52 : Int32) 55 && true) (by decide +kernel) rfl hg2 ?_
      refine zic_le Hy.1 (off := 18) (tgt := 51) (by decide +kernel) (by decide) (fun hb19 => ?_) (fun hb19 => ?_)
      · replace h := zite_t h hb19
        refine zGo_keep [0, 1, 2] rfl ?_
        exact m12_result_51_ok Hy hE x1 (rg M1 1316 0 (nx (52 : Int32))) M1 h
      · replace h := zite_f h hb19
        refine zblq Hy.1 Hy.2.1 [(.iload 1, 1), (.iconst 5, 1)] (S' := (38, [(0, .inr (.inr (some (12, 0)))), (1, .inl x1), (2, .inl (rg M1 1316 0 (nx (52 : Int32))))], [.inl (5 : Int32), .inl x1], zfR M1)) (b := true) (by decide +kernel) rfl rfl ?_
        refine zic_ge Hy.1 (off := 13) (tgt := 51) (by decide +kernel) (by decide) (fun hb18 => ?_) (fun hb18 => ?_)
        · replace h := zite_t h hb18
          refine zGo_keep [0, 1, 2] rfl ?_
          exact m12_result_51_ok Hy hE x1 (rg M1 1316 0 (nx (52 : Int32))) M1 h
        · replace h := zite_f h hb18
          obtain ⟨hg17, h⟩ := zgd_inv h
          refine zblq Hy.1 Hy.2.1 [(.aload 0, 1), (.getfield 1216, 3), (.iconst 50, 2), (.iload 1, 1), (.iadd, 1), (.iaload, 1)] (S' := (50, [(0, .inr (.inr (some (12, 0)))), (1, .inl x1), (2, .inl (rg M1 1316 0 (nx (52 : Int32))))], [.inl (rg M1 1316 0 (nx ((50 : Int32) + x1)))], zfR M1)) (b := zin ((50 : Int32) + x1) 55 && true) (by decide +kernel) rfl hg17 ?_
          cases h
          exact zret_i Hy.1 Hy.2.2 hE (by decide +kernel)
    · replace h := zite_t h hb20
      refine zblq Hy.1 Hy.2.1 [(.iconst (-4), 2)] (S' := (22, [(0, .inr (.inr (some (12, 0)))), (1, .inl x1)], [.inl (-4 : Int32)], zfR M1)) (b := true) (by decide +kernel) rfl rfl ?_
      cases h
      exact zret_i Hy.1 Hy.2.2 hE (by decide +kernel)
  · replace h := zite_t h hb21
    refine zblq Hy.1 Hy.2.1 [(.iconst (-3), 2)] (S' := (12, [(0, .inr (.inr (some (12, 0)))), (1, .inl x1)], [.inl (-3 : Int32)], zfR M1)) (b := true) (by decide +kernel) rfl rfl ?_
    cases h
    exact zret_i Hy.1 Hy.2.2 hE (by decide +kernel)
theorem m12_result_met {l : Launch} {G : zG} (hG : zGok G) (hcn : zgcn G = zcR) {x1 : Int32} {M : rM} {r : Int32} {M' : rM} (h : m12_result x1 M = some (r, M')) : zMet l G yX12_result cX12_result 4 (some .int) 1 24 [.inr (.inr (some (12, 0))), .inl x1] (zfR M) (some (.inl r)) (zfR M') :=
  zMet_of hG tbX12_ok rfl (by decide +kernel) (Nat.le_of_ble_eq_true rfl) (fun X _ Z hA hE => m12_result_ok ⟨Z, hcn, hA⟩ hE x1 M h)
abbrev q12_isEpoch : ByteArray × Nat × String × zT := (cX12_isEpoch, 2, RX12, tbX12)
def m12_isEpoch (x1 : Int32) (M : rM) : Option (Int32 × rM) := (if (rg M 12 0 40) ≤ 0 then some ((0 : Int32), M) else zgd (znz (rg M 12 0 41) && true) ((if (zrem x1 (rg M 12 0 41)) = 0 then some ((1 : Int32), M) else some ((0 : Int32), M))))
theorem m12_isEpoch_ok {X : zX} {G : zG} (Hy : zHy X G q12_isEpoch zcR 0 0 (some .boolean)) {r : Int32} {M' : rM} (hE : zEnd X G (some (.inl r)) (zfR M')) (x1 : Int32) (M : rM) (h : m12_isEpoch x1 M = some (r, M')) : zGo (X, q12_isEpoch, G) 0 0 (0, [(0, .inr (.inr (some (12, 0)))), (1, .inl x1)], [], zfR M) := by
  unfold m12_isEpoch at h
  refine zblq Hy.1 Hy.2.1 [(.aload 0, 1), (.multianewarray 12 40, 3)] (S' := (4, [(0, .inr (.inr (some (12, 0)))), (1, .inl x1)], [.inl (rg M 12 0 40)], zfR M)) (b := true) (by decide +kernel) rfl rfl ?_
  refine zif_le Hy.1 (off := 16) (tgt := 20) (by decide +kernel) (by decide) (fun hb3 => ?_) (fun hb3 => ?_)
  · replace h := zite_t h hb3
    refine zblq Hy.1 Hy.2.1 [(.iconst 0, 1)] (S' := (21, [(0, .inr (.inr (some (12, 0)))), (1, .inl x1)], [.inl (0 : Int32)], zfR M)) (b := true) (by decide +kernel) rfl rfl ?_
    cases h
    exact zret_z Hy.1 Hy.2.2 (by decide) hE (by decide +kernel)
  · replace h := zite_f h hb3
    obtain ⟨hg1, h⟩ := zgd_inv h
    refine zblq Hy.1 Hy.2.1 [(.iload 1, 1), (.aload 0, 1), (.multianewarray 12 41, 3), (.irem, 1)] (S' := (13, [(0, .inr (.inr (some (12, 0)))), (1, .inl x1)], [.inl (zrem x1 (rg M 12 0 41))], zfR M)) (b := znz (rg M 12 0 41) && true) (by decide +kernel) rfl hg1 ?_
    refine zif_ne Hy.1 (off := 7) (tgt := 20) (by decide +kernel) (by decide) (fun hb2 => ?_) (fun hb2 => ?_)
    · replace h := zite_f h hb2
      refine zblq Hy.1 Hy.2.1 [(.iconst 0, 1)] (S' := (21, [(0, .inr (.inr (some (12, 0)))), (1, .inl x1)], [.inl (0 : Int32)], zfR M)) (b := true) (by decide +kernel) rfl rfl ?_
      cases h
      exact zret_z Hy.1 Hy.2.2 (by decide) hE (by decide +kernel)
    · replace h := zite_t h hb2
      refine zblq Hy.1 Hy.2.1 [(.iconst 1, 1), (.ldc 21, 3)] (S' := (21, [(0, .inr (.inr (some (12, 0)))), (1, .inl x1)], [.inl (1 : Int32)], zfR M)) (b := true) (by decide +kernel) rfl rfl ?_
      cases h
      exact zret_z Hy.1 Hy.2.2 (by decide) hE (by decide +kernel)
theorem m12_isEpoch_met {l : Launch} {G : zG} (hG : zGok G) (hcn : zgcn G = zcR) {x1 : Int32} {M : rM} {r : Int32} {M' : rM} (h : m12_isEpoch x1 M = some (r, M')) : zMet l G yX12_isEpoch cX12_isEpoch 2 (some .boolean) 0 0 [.inr (.inr (some (12, 0))), .inl x1] (zfR M) (some (.inl r)) (zfR M') :=
  zMet_of hG tbX12_ok rfl (by decide +kernel) (Nat.le_of_ble_eq_true rfl) (fun X _ Z hA hE => m12_isEpoch_ok ⟨Z, hcn, hA⟩ hE x1 M h)
abbrev q12_foretoldFor : ByteArray × Nat × String × zT := (cX12_foretoldFor, 7, RX12, tbX12)
def m12_foretoldFor_84 (k9 : Int32 → Int32 → Int32 → Int32 → Int32 → Int32 → rM → Option (Int32 × rM)) (x1 : Int32) (x2 : Int32) (x3 : Int32) (x4 : Int32) (x6 : Int32) (t0 : Int32) (t1 : Int32) (M : rM) : Option (Int32 × rM) := k9 x1 x2 x3 x4 (t0 + t1) (x6 + (1 : Int32)) M
theorem m12_foretoldFor_84_ok {X : zX} {G : zG} (Hy : zHy X G q12_foretoldFor zcR 2 45 (some .int)) {r : Int32} {M' : rM} (hE : zEnd X G (some (.inl r)) (zfR M')) {k9 : Int32 → Int32 → Int32 → Int32 → Int32 → Int32 → rM → Option (Int32 × rM)} (hk9 : ∀ (x1 : Int32) (x2 : Int32) (x3 : Int32) (x4 : Int32) (x5 : Int32) (x6 : Int32) (M : rM), k9 x1 x2 x3 x4 x5 x6 M = some (r, M') → zGo (X, q12_foretoldFor, G) 0 0 (9, [(0, .inr (.inr (some (12, 0)))), (1, .inl x1), (2, .inl x2), (3, .inl x3), (4, .inl x4), (5, .inl x5), (6, .inl x6)], [], zfR M)) (x1 : Int32) (x2 : Int32) (x3 : Int32) (x4 : Int32) (x6 : Int32) (t0 : Int32) (t1 : Int32) (M : rM) (h : m12_foretoldFor_84 k9 x1 x2 x3 x4 x6 t0 t1 M = some (r, M')) : zGo (X, q12_foretoldFor, G) 0 0 (84, [(0, .inr (.inr (some (12, 0)))), (1, .inl x1), (2, .inl x2), (3, .inl x3), (4, .inl x4), (6, .inl x6)], [.inl t1, .inl t0], zfR M) := by
  unfold m12_foretoldFor_84 at h
  refine zblq Hy.1 Hy.2.1 [(.iadd, 1), (.istore 5, 2), (.iinc 6 1, 3), (.ldc 9, 3)] (S' := (9, [(0, .inr (.inr (some (12, 0)))), (1, .inl x1), (2, .inl x2), (3, .inl x3), (4, .inl x4), (5, .inl (t0 + t1)), (6, .inl (x6 + (1 : Int32)))], [], zfR M)) (b := true) (by decide +kernel) rfl rfl ?_
  refine zGo_keep [0, 1, 2, 3, 4, 5, 6] rfl ?_
  exact hk9 x1 x2 x3 x4 (t0 + t1) (x6 + (1 : Int32)) M h
def m12_foretoldFor_70 (k9 : Int32 → Int32 → Int32 → Int32 → Int32 → Int32 → rM → Option (Int32 × rM)) (x1 : Int32) (x2 : Int32) (x3 : Int32) (x4 : Int32) (x6 : Int32) (t0 : Int32) (t1 : Int32) (M : rM) : Option (Int32 × rM) := zgd (zin (3 : Int32) 7 && true) (m12_foretoldFor_84 k9 x1 x2 x3 x4 x6 t0 (t1 + (x4 * (rg M 1312 0 (nx (3 : Int32))))) M)
theorem m12_foretoldFor_70_ok {X : zX} {G : zG} (Hy : zHy X G q12_foretoldFor zcR 2 45 (some .int)) {r : Int32} {M' : rM} (hE : zEnd X G (some (.inl r)) (zfR M')) {k9 : Int32 → Int32 → Int32 → Int32 → Int32 → Int32 → rM → Option (Int32 × rM)} (hk9 : ∀ (x1 : Int32) (x2 : Int32) (x3 : Int32) (x4 : Int32) (x5 : Int32) (x6 : Int32) (M : rM), k9 x1 x2 x3 x4 x5 x6 M = some (r, M') → zGo (X, q12_foretoldFor, G) 0 0 (9, [(0, .inr (.inr (some (12, 0)))), (1, .inl x1), (2, .inl x2), (3, .inl x3), (4, .inl x4), (5, .inl x5), (6, .inl x6)], [], zfR M)) (x1 : Int32) (x2 : Int32) (x3 : Int32) (x4 : Int32) (x6 : Int32) (t0 : Int32) (t1 : Int32) (M : rM) (h : m12_foretoldFor_70 k9 x1 x2 x3 x4 x6 t0 t1 M = some (r, M')) : zGo (X, q12_foretoldFor, G) 0 0 (70, [(0, .inr (.inr (some (12, 0)))), (1, .inl x1), (2, .inl x2), (3, .inl x3), (4, .inl x4), (6, .inl x6)], [.inl t1, .inl t0], zfR M) := by
  unfold m12_foretoldFor_70 at h
  obtain ⟨hg4, h⟩ := zgd_inv h
  refine zblq Hy.1 Hy.2.1 [(.iload 4, 2), (.aload 0, 1), (.getfield 1212, 3), (.iconst 3, 1), (.iaload, 1), (.imul, 1), (.iadd, 1), (.ldc 84, 3)] (S' := (84, [(0, .inr (.inr (some (12, 0)))), (1, .inl x1), (2, .inl x2), (3, .inl x3), (4, .inl x4), (6, .inl x6)], [.inl (t1 + (x4 * (rg M 1312 0 (nx (3 : Int32))))), .inl t0], zfR M)) (b := zin (3 : Int32) 7 && true) (by decide +kernel) rfl hg4 ?_
  refine zGo_keep [0, 1, 2, 3, 4, 6] rfl ?_
  exact m12_foretoldFor_84_ok Hy hE hk9 x1 x2 x3 x4 x6 t0 (t1 + (x4 * (rg M 1312 0 (nx (3 : Int32))))) M h
def m12_foretoldFor_41 (k9 : Int32 → Int32 → Int32 → Int32 → Int32 → Int32 → rM → Option (Int32 × rM)) (x1 : Int32) (x2 : Int32) (x3 : Int32) (x4 : Int32) (x6 : Int32) (t0 : Int32) (t2 : Int32) (M : rM) : Option (Int32 × rM) := zgd (zin t2 7 && true) (zbd (m12_isEpoch x6 M) (fun r3 M3 => (if r3 = 0 then m12_foretoldFor_84 k9 x1 x2 x3 x4 x6 (t0 + (rg M 1312 0 (nx t2))) (0 : Int32) M3 else (if x3 = 0 then m12_foretoldFor_70 k9 x1 x2 x3 x4 x6 (t0 + (rg M 1312 0 (nx t2))) (0 : Int32) M3 else zgd (zin (2 : Int32) 7 && true) (m12_foretoldFor_70 k9 x1 x2 x3 x4 x6 (t0 + (rg M 1312 0 (nx t2))) (rg M3 1312 0 (nx (2 : Int32))) M3)))))
theorem m12_foretoldFor_41_ok {X : zX} {G : zG} (Hy : zHy X G q12_foretoldFor zcR 2 45 (some .int)) {r : Int32} {M' : rM} (hE : zEnd X G (some (.inl r)) (zfR M')) {k9 : Int32 → Int32 → Int32 → Int32 → Int32 → Int32 → rM → Option (Int32 × rM)} (hk9 : ∀ (x1 : Int32) (x2 : Int32) (x3 : Int32) (x4 : Int32) (x5 : Int32) (x6 : Int32) (M : rM), k9 x1 x2 x3 x4 x5 x6 M = some (r, M') → zGo (X, q12_foretoldFor, G) 0 0 (9, [(0, .inr (.inr (some (12, 0)))), (1, .inl x1), (2, .inl x2), (3, .inl x3), (4, .inl x4), (5, .inl x5), (6, .inl x6)], [], zfR M)) (x1 : Int32) (x2 : Int32) (x3 : Int32) (x4 : Int32) (x6 : Int32) (t0 : Int32) (t2 : Int32) (M : rM) (h : m12_foretoldFor_41 k9 x1 x2 x3 x4 x6 t0 t2 M = some (r, M')) : zGo (X, q12_foretoldFor, G) 0 0 (41, [(0, .inr (.inr (some (12, 0)))), (1, .inl x1), (2, .inl x2), (3, .inl x3), (4, .inl x4), (6, .inl x6)], [.inl t2, .inr (.inr (some (1312, 0))), .inl t0], zfR M) := by
  unfold m12_foretoldFor_41 at h
  obtain ⟨hg2, h⟩ := zgd_inv h
  refine zblq Hy.1 Hy.2.1 [(.iaload, 1), (.iadd, 1), (.istore 5, 2), (.iload 5, 2), (.aload 0, 1), (.iload 6, 2)] (S' := (50, [(0, .inr (.inr (some (12, 0)))), (1, .inl x1), (2, .inl x2), (3, .inl x3), (4, .inl x4), (5, .inl (t0 + (rg M 1312 0 (nx t2)))), (6, .inl x6)], [.inl x6, .inr (.inr (some (12, 0))), .inl (t0 + (rg M 1312 0 (nx t2)))], zfR M)) (b := zin t2 7 && true) (by decide +kernel) rfl hg2 ?_
  obtain ⟨r3, M3, hc3, h⟩ := zbd_inv h
  refine zcallV Hy.1 (as := [.inl x6]) (st := [.inl (t0 + (rg M 1312 0 (nx t2)))]) (m12_isEpoch_met (zOK_G Hy.1) Hy.2.1 hc3) cw12_345 m12_isEpoch_in m12_isEpoch_se (by decide) (zhlv Hy.2.1 rfl) rfl (zroom Hy.2.2 ⟨by decide, by decide⟩) rfl (by decide +kernel) ⟨Nat.zero_le _, Nat.zero_le _⟩ ?_
  refine zif_eq Hy.1 (off := 30) (tgt := 83) (by decide +kernel) (by decide) (fun hb7 => ?_) (fun hb7 => ?_)
  · replace h := zite_t h hb7
    refine zblq Hy.1 Hy.2.1 [(.iconst 0, 1)] (S' := (84, [(0, .inr (.inr (some (12, 0)))), (1, .inl x1), (2, .inl x2), (3, .inl x3), (4, .inl x4), (5, .inl (t0 + (rg M 1312 0 (nx t2)))), (6, .inl x6)], [.inl (0 : Int32), .inl (t0 + (rg M 1312 0 (nx t2)))], zfR M3)) (b := true) (by decide +kernel) rfl rfl ?_
    refine zGo_keep [0, 1, 2, 3, 4, 6] rfl ?_
    exact m12_foretoldFor_84_ok Hy hE hk9 x1 x2 x3 x4 x6 (t0 + (rg M 1312 0 (nx t2))) (0 : Int32) M3 h
  · replace h := zite_f h hb7
    refine zblq Hy.1 Hy.2.1 [(.iload 3, 1)] (S' := (57, [(0, .inr (.inr (some (12, 0)))), (1, .inl x1), (2, .inl x2), (3, .inl x3), (4, .inl x4), (5, .inl (t0 + (rg M 1312 0 (nx t2)))), (6, .inl x6)], [.inl x3, .inl (t0 + (rg M 1312 0 (nx t2)))], zfR M3)) (b := true) (by decide +kernel) rfl rfl ?_
    refine zif_eq Hy.1 (off := 12) (tgt := 69) (by decide +kernel) (by decide) (fun hb6 => ?_) (fun hb6 => ?_)
    · replace h := zite_t h hb6
      refine zblq Hy.1 Hy.2.1 [(.iconst 0, 1)] (S' := (70, [(0, .inr (.inr (some (12, 0)))), (1, .inl x1), (2, .inl x2), (3, .inl x3), (4, .inl x4), (5, .inl (t0 + (rg M 1312 0 (nx t2)))), (6, .inl x6)], [.inl (0 : Int32), .inl (t0 + (rg M 1312 0 (nx t2)))], zfR M3)) (b := true) (by decide +kernel) rfl rfl ?_
      refine zGo_keep [0, 1, 2, 3, 4, 6] rfl ?_
      exact m12_foretoldFor_70_ok Hy hE hk9 x1 x2 x3 x4 x6 (t0 + (rg M 1312 0 (nx t2))) (0 : Int32) M3 h
    · replace h := zite_f h hb6
      obtain ⟨hg5, h⟩ := zgd_inv h
      refine zblq Hy.1 Hy.2.1 [(.aload 0, 1), (.getfield 1212, 3), (.iconst 2, 1), (.iaload, 1), (.ldc 70, 3)] (S' := (70, [(0, .inr (.inr (some (12, 0)))), (1, .inl x1), (2, .inl x2), (3, .inl x3), (4, .inl x4), (5, .inl (t0 + (rg M 1312 0 (nx t2)))), (6, .inl x6)], [.inl (rg M3 1312 0 (nx (2 : Int32))), .inl (t0 + (rg M 1312 0 (nx t2)))], zfR M3)) (b := zin (2 : Int32) 7 && true) (by decide +kernel) rfl hg5 ?_
      refine zGo_keep [0, 1, 2, 3, 4, 6] rfl ?_
      exact m12_foretoldFor_70_ok Hy hE hk9 x1 x2 x3 x4 x6 (t0 + (rg M 1312 0 (nx t2))) (rg M3 1312 0 (nx (2 : Int32))) M3 h
def m12_foretoldFor_9 : Nat → Int32 → Int32 → Int32 → Int32 → Int32 → Int32 → rM → Option (Int32 × rM)
  | 0, _, _, _, _, _, _, _ => none
  | n + 1, x1, x2, x3, x4, x5, x6, M => (if ((rg M 12 0 13) + x2) ≤ x6 then some (x5, M) else zbd (m12_isOn x1 x6 M) (fun r1 M1 => (if r1 = 0 then m12_foretoldFor_41 (m12_foretoldFor_9 n) x1 x2 x3 x4 x6 x5 (0 : Int32) M1 else m12_foretoldFor_41 (m12_foretoldFor_9 n) x1 x2 x3 x4 x6 x5 (1 : Int32) M1)))
theorem m12_foretoldFor_9_ok {X : zX} {G : zG} (Hy : zHy X G q12_foretoldFor zcR 2 45 (some .int)) {r : Int32} {M' : rM} (hE : zEnd X G (some (.inl r)) (zfR M')) : ∀ (n : Nat) (x1 : Int32) (x2 : Int32) (x3 : Int32) (x4 : Int32) (x5 : Int32) (x6 : Int32) (M : rM), m12_foretoldFor_9 n x1 x2 x3 x4 x5 x6 M = some (r, M') → zGo (X, q12_foretoldFor, G) 0 0 (9, [(0, .inr (.inr (some (12, 0)))), (1, .inl x1), (2, .inl x2), (3, .inl x3), (4, .inl x4), (5, .inl x5), (6, .inl x6)], [], zfR M) := by
  intro n
  induction n with
  | zero => intro x1 x2 x3 x4 x5 x6 M h; cases h
  | succ n ih =>
    intro x1 x2 x3 x4 x5 x6 M h
    unfold m12_foretoldFor_9 at h
    refine zblq Hy.1 Hy.2.1 [(.iload 6, 2), (.aload 0, 1), (.multianewarray 12 13, 3), (.iload 2, 1), (.iadd, 1)] (S' := (17, [(0, .inr (.inr (some (12, 0)))), (1, .inl x1), (2, .inl x2), (3, .inl x3), (4, .inl x4), (5, .inl x5), (6, .inl x6)], [.inl ((rg M 12 0 13) + x2), .inl x6], zfR M)) (b := true) (by decide +kernel) rfl rfl ?_
    refine zic_ge Hy.1 (off := 76) (tgt := 93) (by decide +kernel) (by decide) (fun hb9 => ?_) (fun hb9 => ?_)
    · replace h := zite_t h hb9
      refine zblq Hy.1 Hy.2.1 [(.iload 5, 2)] (S' := (95, [(0, .inr (.inr (some (12, 0)))), (1, .inl x1), (2, .inl x2), (3, .inl x3), (4, .inl x4), (5, .inl x5), (6, .inl x6)], [.inl x5], zfR M)) (b := true) (by decide +kernel) rfl rfl ?_
      cases h
      exact zret_i Hy.1 Hy.2.2 hE (by decide +kernel)
    · replace h := zite_f h hb9
      refine zblq Hy.1 Hy.2.1 [(.iload 5, 2), (.aload 0, 1), (.getfield 1212, 3), (.aload 0, 1), (.iload 1, 1), (.iload 6, 2)] (S' := (30, [(0, .inr (.inr (some (12, 0)))), (1, .inl x1), (2, .inl x2), (3, .inl x3), (4, .inl x4), (5, .inl x5), (6, .inl x6)], [.inl x6, .inl x1, .inr (.inr (some (12, 0))), .inr (.inr (some (1312, 0))), .inl x5], zfR M)) (b := true) (by decide +kernel) rfl rfl ?_
      obtain ⟨r1, M1, hc1, h⟩ := zbd_inv h
      refine zcallV Hy.1 (as := [.inl x1, .inl x6]) (st := [.inr (.inr (some (1312, 0))), .inl x5]) (m12_isOn_met (zOK_G Hy.1) Hy.2.1 hc1) cw12_194 m12_isOn_in m12_isOn_se (by decide) (zhlv Hy.2.1 rfl) rfl (zroom Hy.2.2 ⟨by decide, by decide⟩) rfl (by decide +kernel) ⟨Nat.zero_le _, Nat.zero_le _⟩ ?_
      refine zif_eq Hy.1 (off := 7) (tgt := 40) (by decide +kernel) (by decide) (fun hb8 => ?_) (fun hb8 => ?_)
      · replace h := zite_t h hb8
        refine zblq Hy.1 Hy.2.1 [(.iconst 0, 1)] (S' := (41, [(0, .inr (.inr (some (12, 0)))), (1, .inl x1), (2, .inl x2), (3, .inl x3), (4, .inl x4), (5, .inl x5), (6, .inl x6)], [.inl (0 : Int32), .inr (.inr (some (1312, 0))), .inl x5], zfR M1)) (b := true) (by decide +kernel) rfl rfl ?_
        refine zGo_keep [0, 1, 2, 3, 4, 6] rfl ?_
        exact m12_foretoldFor_41_ok Hy hE ih x1 x2 x3 x4 x6 x5 (0 : Int32) M1 h
      · replace h := zite_f h hb8
        refine zblq Hy.1 Hy.2.1 [(.iconst 1, 1), (.ldc 41, 3)] (S' := (41, [(0, .inr (.inr (some (12, 0)))), (1, .inl x1), (2, .inl x2), (3, .inl x3), (4, .inl x4), (5, .inl x5), (6, .inl x6)], [.inl (1 : Int32), .inr (.inr (some (1312, 0))), .inl x5], zfR M1)) (b := true) (by decide +kernel) rfl rfl ?_
        refine zGo_keep [0, 1, 2, 3, 4, 6] rfl ?_
        exact m12_foretoldFor_41_ok Hy hE ih x1 x2 x3 x4 x6 x5 (1 : Int32) M1 h
def m12_foretoldFor (x1 : Int32) (x2 : Int32) (x3 : Int32) (x4 : Int32) (M : rM) : Option (Int32 × rM) := m12_foretoldFor_9 zfu x1 x2 x3 x4 (0 : Int32) (rg M 12 0 13) M
theorem m12_foretoldFor_ok {X : zX} {G : zG} (Hy : zHy X G q12_foretoldFor zcR 2 45 (some .int)) {r : Int32} {M' : rM} (hE : zEnd X G (some (.inl r)) (zfR M')) (x1 : Int32) (x2 : Int32) (x3 : Int32) (x4 : Int32) (M : rM) (h : m12_foretoldFor x1 x2 x3 x4 M = some (r, M')) : zGo (X, q12_foretoldFor, G) 0 0 (0, [(0, .inr (.inr (some (12, 0)))), (1, .inl x1), (2, .inl x2), (3, .inl x3), (4, .inl x4)], [], zfR M) := by
  unfold m12_foretoldFor at h
  refine zblq Hy.1 Hy.2.1 [(.iconst 0, 1), (.istore 5, 2), (.aload 0, 1), (.multianewarray 12 13, 3), (.istore 6, 2)] (S' := (9, [(0, .inr (.inr (some (12, 0)))), (1, .inl x1), (2, .inl x2), (3, .inl x3), (4, .inl x4), (5, .inl (0 : Int32)), (6, .inl (rg M 12 0 13))], [], zfR M)) (b := true) (by decide +kernel) rfl rfl ?_
  refine zGo_keep [0, 1, 2, 3, 4, 5, 6] rfl ?_
  exact m12_foretoldFor_9_ok Hy hE zfu x1 x2 x3 x4 (0 : Int32) (rg M 12 0 13) M h
theorem m12_foretoldFor_met {l : Launch} {G : zG} (hG : zGok G) (hcn : zgcn G = zcR) {x1 : Int32} {x2 : Int32} {x3 : Int32} {x4 : Int32} {M : rM} {r : Int32} {M' : rM} (h : m12_foretoldFor x1 x2 x3 x4 M = some (r, M')) : zMet l G yX12_foretoldFor cX12_foretoldFor 7 (some .int) 2 45 [.inr (.inr (some (12, 0))), .inl x1, .inl x2, .inl x3, .inl x4] (zfR M) (some (.inl r)) (zfR M') :=
  zMet_of hG tbX12_ok rfl (by decide +kernel) (Nat.le_of_ble_eq_true rfl) (fun X _ Z hA hE => m12_foretoldFor_ok ⟨Z, hcn, hA⟩ hE x1 x2 x3 x4 M h)
abbrev q12_childrenOf : ByteArray × Nat × String × zT := (cX12_childrenOf, 4, RX12, tbX12)
def m12_childrenOf_28 (k4 : Int32 → Int32 → Int32 → rM → Option (Int32 × rM)) (x1 : Int32) (x3 : Int32) (t0 : Int32) (t1 : Int32) (M : rM) : Option (Int32 × rM) := k4 x1 (t0 + t1) (x3 + (1 : Int32)) M
theorem m12_childrenOf_28_ok {X : zX} {G : zG} (Hy : zHy X G q12_childrenOf zcR 0 0 (some .int)) {r : Int32} {M' : rM} (hE : zEnd X G (some (.inl r)) (zfR M')) {k4 : Int32 → Int32 → Int32 → rM → Option (Int32 × rM)} (hk4 : ∀ (x1 : Int32) (x2 : Int32) (x3 : Int32) (M : rM), k4 x1 x2 x3 M = some (r, M') → zGo (X, q12_childrenOf, G) 0 0 (4, [(0, .inr (.inr (some (12, 0)))), (1, .inl x1), (2, .inl x2), (3, .inl x3)], [], zfR M)) (x1 : Int32) (x3 : Int32) (t0 : Int32) (t1 : Int32) (M : rM) (h : m12_childrenOf_28 k4 x1 x3 t0 t1 M = some (r, M')) : zGo (X, q12_childrenOf, G) 0 0 (28, [(0, .inr (.inr (some (12, 0)))), (1, .inl x1), (3, .inl x3)], [.inl t1, .inl t0], zfR M) := by
  unfold m12_childrenOf_28 at h
  refine zblq Hy.1 Hy.2.1 [(.iadd, 1), (.istore 2, 1), (.iinc 3 1, 3), (.ldc 4, 3)] (S' := (4, [(0, .inr (.inr (some (12, 0)))), (1, .inl x1), (2, .inl (t0 + t1)), (3, .inl (x3 + (1 : Int32)))], [], zfR M)) (b := true) (by decide +kernel) rfl rfl ?_
  refine zGo_keep [0, 1, 2, 3] rfl ?_
  exact hk4 x1 (t0 + t1) (x3 + (1 : Int32)) M h
def m12_childrenOf_4 : Nat → Int32 → Int32 → Int32 → rM → Option (Int32 × rM)
  | 0, _, _, _, _ => none
  | n + 1, x1, x2, x3, M => (if (rg M 12 0 0) ≤ x3 then some (x2, M) else zgd (zin x3 10 && true) ((if (rg M 1309 0 (nx x3)) = x1 then m12_childrenOf_28 (m12_childrenOf_4 n) x1 x3 x2 (1 : Int32) M else m12_childrenOf_28 (m12_childrenOf_4 n) x1 x3 x2 (0 : Int32) M)))
theorem m12_childrenOf_4_ok {X : zX} {G : zG} (Hy : zHy X G q12_childrenOf zcR 0 0 (some .int)) {r : Int32} {M' : rM} (hE : zEnd X G (some (.inl r)) (zfR M')) : ∀ (n : Nat) (x1 : Int32) (x2 : Int32) (x3 : Int32) (M : rM), m12_childrenOf_4 n x1 x2 x3 M = some (r, M') → zGo (X, q12_childrenOf, G) 0 0 (4, [(0, .inr (.inr (some (12, 0)))), (1, .inl x1), (2, .inl x2), (3, .inl x3)], [], zfR M) := by
  intro n
  induction n with
  | zero => intro x1 x2 x3 M h; cases h
  | succ n ih =>
    intro x1 x2 x3 M h
    unfold m12_childrenOf_4 at h
    refine zblq Hy.1 Hy.2.1 [(.iload 3, 1), (.aload 0, 1), (.multianewarray 12 0, 3)] (S' := (9, [(0, .inr (.inr (some (12, 0)))), (1, .inl x1), (2, .inl x2), (3, .inl x3)], [.inl (rg M 12 0 0), .inl x3], zfR M)) (b := true) (by decide +kernel) rfl rfl ?_
    refine zic_ge Hy.1 (off := 27) (tgt := 36) (by decide +kernel) (by decide) (fun hb3 => ?_) (fun hb3 => ?_)
    · replace h := zite_t h hb3
      refine zblq Hy.1 Hy.2.1 [(.iload 2, 1)] (S' := (37, [(0, .inr (.inr (some (12, 0)))), (1, .inl x1), (2, .inl x2), (3, .inl x3)], [.inl x2], zfR M)) (b := true) (by decide +kernel) rfl rfl ?_
      cases h
      exact zret_i Hy.1 Hy.2.2 hE (by decide +kernel)
    · replace h := zite_f h hb3
      obtain ⟨hg1, h⟩ := zgd_inv h
      refine zblq Hy.1 Hy.2.1 [(.iload 2, 1), (.aload 0, 1), (.getfield 1209, 3), (.iload 3, 1), (.iaload, 1), (.iload 1, 1)] (S' := (20, [(0, .inr (.inr (some (12, 0)))), (1, .inl x1), (2, .inl x2), (3, .inl x3)], [.inl x1, .inl (rg M 1309 0 (nx x3)), .inl x2], zfR M)) (b := zin x3 10 && true) (by decide +kernel) rfl hg1 ?_
      refine zic_ne Hy.1 (off := 7) (tgt := 27) (by decide +kernel) (by decide) (fun hb2 => ?_) (fun hb2 => ?_)
      · replace h := zite_f h hb2
        refine zblq Hy.1 Hy.2.1 [(.iconst 0, 1)] (S' := (28, [(0, .inr (.inr (some (12, 0)))), (1, .inl x1), (2, .inl x2), (3, .inl x3)], [.inl (0 : Int32), .inl x2], zfR M)) (b := true) (by decide +kernel) rfl rfl ?_
        refine zGo_keep [0, 1, 3] rfl ?_
        exact m12_childrenOf_28_ok Hy hE ih x1 x3 x2 (0 : Int32) M h
      · replace h := zite_t h hb2
        refine zblq Hy.1 Hy.2.1 [(.iconst 1, 1), (.ldc 28, 3)] (S' := (28, [(0, .inr (.inr (some (12, 0)))), (1, .inl x1), (2, .inl x2), (3, .inl x3)], [.inl (1 : Int32), .inl x2], zfR M)) (b := true) (by decide +kernel) rfl rfl ?_
        refine zGo_keep [0, 1, 3] rfl ?_
        exact m12_childrenOf_28_ok Hy hE ih x1 x3 x2 (1 : Int32) M h
def m12_childrenOf (x1 : Int32) (M : rM) : Option (Int32 × rM) := m12_childrenOf_4 zfu x1 (0 : Int32) (0 : Int32) M
theorem m12_childrenOf_ok {X : zX} {G : zG} (Hy : zHy X G q12_childrenOf zcR 0 0 (some .int)) {r : Int32} {M' : rM} (hE : zEnd X G (some (.inl r)) (zfR M')) (x1 : Int32) (M : rM) (h : m12_childrenOf x1 M = some (r, M')) : zGo (X, q12_childrenOf, G) 0 0 (0, [(0, .inr (.inr (some (12, 0)))), (1, .inl x1)], [], zfR M) := by
  unfold m12_childrenOf at h
  refine zblq Hy.1 Hy.2.1 [(.iconst 0, 1), (.istore 2, 1), (.iconst 0, 1), (.istore 3, 1)] (S' := (4, [(0, .inr (.inr (some (12, 0)))), (1, .inl x1), (2, .inl (0 : Int32)), (3, .inl (0 : Int32))], [], zfR M)) (b := true) (by decide +kernel) rfl rfl ?_
  refine zGo_keep [0, 1, 2, 3] rfl ?_
  exact m12_childrenOf_4_ok Hy hE zfu x1 (0 : Int32) (0 : Int32) M h
theorem m12_childrenOf_met {l : Launch} {G : zG} (hG : zGok G) (hcn : zgcn G = zcR) {x1 : Int32} {M : rM} {r : Int32} {M' : rM} (h : m12_childrenOf x1 M = some (r, M')) : zMet l G yX12_childrenOf cX12_childrenOf 4 (some .int) 0 0 [.inr (.inr (some (12, 0))), .inl x1] (zfR M) (some (.inl r)) (zfR M') :=
  zMet_of hG tbX12_ok rfl (by decide +kernel) (Nat.le_of_ble_eq_true rfl) (fun X _ Z hA hE => m12_childrenOf_ok ⟨Z, hcn, hA⟩ hE x1 M h)
abbrev q12_foretold : ByteArray × Nat × String × zT := (cX12_foretold, 3, RX12, tbX12)
def m12_foretold_40 (x1 : Int32) (t1 : Int32) (t2 : Int32) (t3 : Int32) (M : rM) : Option (Int32 × rM) := zbd (m12_childrenOf x1 M) (fun r4 M4 => zbd (m12_foretoldFor t1 t2 t3 r4 M4) (fun r5 M5 => some (r5, M5)))
theorem m12_foretold_40_ok {X : zX} {G : zG} (Hy : zHy X G q12_foretold zcR 3 71 (some .int)) {r : Int32} {M' : rM} (hE : zEnd X G (some (.inl r)) (zfR M')) (x1 : Int32) (t1 : Int32) (t2 : Int32) (t3 : Int32) (M : rM) (h : m12_foretold_40 x1 t1 t2 t3 M = some (r, M')) : zGo (X, q12_foretold, G) 0 0 (40, [(0, .inr (.inr (some (12, 0)))), (1, .inl x1)], [.inl t3, .inl t2, .inl t1, .inr (.inr (some (12, 0)))], zfR M) := by
  unfold m12_foretold_40 at h
  refine zblq Hy.1 Hy.2.1 [(.aload 0, 1), (.iload 1, 1)] (S' := (42, [(0, .inr (.inr (some (12, 0)))), (1, .inl x1)], [.inl x1, .inr (.inr (some (12, 0))), .inl t3, .inl t2, .inl t1, .inr (.inr (some (12, 0)))], zfR M)) (b := true) (by decide +kernel) rfl rfl ?_
  obtain ⟨r4, M4, hc4, h⟩ := zbd_inv h
  refine zcallV Hy.1 (as := [.inl x1]) (st := [.inl t3, .inl t2, .inl t1, .inr (.inr (some (12, 0)))]) (m12_childrenOf_met (zOK_G Hy.1) Hy.2.1 hc4) cw12_348 m12_childrenOf_in m12_childrenOf_se (by decide) (zhlv Hy.2.1 rfl) rfl (zroom Hy.2.2 ⟨by decide, by decide⟩) rfl (by decide +kernel) ⟨Nat.zero_le _, Nat.zero_le _⟩ ?_
  obtain ⟨r5, M5, hc5, h⟩ := zbd_inv h
  refine zcallV Hy.1 (as := [.inl t1, .inl t2, .inl t3, .inl r4]) (st := []) (m12_foretoldFor_met (zOK_G Hy.1) Hy.2.1 hc5) cw12_351 m12_foretoldFor_in m12_foretoldFor_se (by decide) (zhlv Hy.2.1 rfl) rfl (zroom Hy.2.2 ⟨by decide, by decide⟩) rfl (by decide +kernel) ⟨Nat.zero_le _, Nat.zero_le _⟩ ?_
  refine zblq Hy.1 Hy.2.1 [(.ldc 53, 3)] (S' := (53, [(0, .inr (.inr (some (12, 0)))), (1, .inl x1)], [.inl r5], zfR M5)) (b := true) (by decide +kernel) rfl rfl ?_
  cases h
  exact zret_i Hy.1 Hy.2.2 hE (by decide +kernel)
def m12_foretold (x1 : Int32) (x2 : Int32) (M : rM) : Option (Int32 × rM) := zbd (m12_isBox x1 M) (fun r1 M1 => (if r1 = 0 then some ((-2 : Int32), M1) else zbd (m12_in x2 (0 : Int32) (1000 : Int32) M1) (fun r2 M2 => (if r2 = 0 then some ((-3 : Int32), M2) else zgd (zin x1 10 && true) ((if (rg M2 1309 0 (nx x1)) = (-1 : Int32) then m12_foretold_40 x1 x1 x2 (0 : Int32) M2 else m12_foretold_40 x1 x1 x2 (1 : Int32) M2))))))
theorem m12_foretold_ok {X : zX} {G : zG} (Hy : zHy X G q12_foretold zcR 3 71 (some .int)) {r : Int32} {M' : rM} (hE : zEnd X G (some (.inl r)) (zfR M')) (x1 : Int32) (x2 : Int32) (M : rM) (h : m12_foretold x1 x2 M = some (r, M')) : zGo (X, q12_foretold, G) 0 0 (0, [(0, .inr (.inr (some (12, 0)))), (1, .inl x1), (2, .inl x2)], [], zfR M) := by
  unfold m12_foretold at h
  refine zblq Hy.1 Hy.2.1 [(.aload 0, 1), (.iload 1, 1)] (S' := (2, [(0, .inr (.inr (some (12, 0)))), (1, .inl x1), (2, .inl x2)], [.inl x1, .inr (.inr (some (12, 0)))], zfR M)) (b := true) (by decide +kernel) rfl rfl ?_
  obtain ⟨r1, M1, hc1, h⟩ := zbd_inv h
  refine zcallV Hy.1 (as := [.inl x1]) (st := []) (m12_isBox_met (zOK_G Hy.1) Hy.2.1 hc1) cw12_175 m12_isBox_in m12_isBox_se (by decide) (zhlv Hy.2.1 rfl) rfl (zroom Hy.2.2 ⟨by decide, by decide⟩) rfl (by decide +kernel) ⟨Nat.zero_le _, Nat.zero_le _⟩ ?_
  refine zif_ne Hy.1 (off := 6) (tgt := 11) (by decide +kernel) (by decide) (fun hb8 => ?_) (fun hb8 => ?_)
  · replace h := zite_f h hb8
    refine zblq Hy.1 Hy.2.1 [(.iload 2, 1), (.iconst 0, 1), (.iconst 1000, 3)] (S' := (16, [(0, .inr (.inr (some (12, 0)))), (1, .inl x1), (2, .inl x2)], [.inl (1000 : Int32), .inl (0 : Int32), .inl x2], zfR M1)) (b := true) (by decide +kernel) rfl rfl ?_
    obtain ⟨r2, M2, hc2, h⟩ := zbd_inv h
    refine zcallS Hy.1 (as := [.inl x2, .inl (0 : Int32), .inl (1000 : Int32)]) (st := []) (m12_in_met (zOK_G Hy.1) Hy.2.1 hc2) cw12_171 m12_in_in rfl (zroom Hy.2.2 ⟨by decide, by decide⟩) rfl (by decide +kernel) ⟨Nat.zero_le _, Nat.zero_le _⟩ ?_
    refine zif_eq Hy.1 (off := 32) (tgt := 51) (by decide +kernel) (by decide) (fun hb7 => ?_) (fun hb7 => ?_)
    · replace h := zite_t h hb7
      refine zblq Hy.1 Hy.2.1 [(.iconst (-3), 2)] (S' := (53, [(0, .inr (.inr (some (12, 0)))), (1, .inl x1), (2, .inl x2)], [.inl (-3 : Int32)], zfR M2)) (b := true) (by decide +kernel) rfl rfl ?_
      cases h
      exact zret_i Hy.1 Hy.2.2 hE (by decide +kernel)
    · replace h := zite_f h hb7
      obtain ⟨hg3, h⟩ := zgd_inv h
      refine zblq Hy.1 Hy.2.1 [(.aload 0, 1), (.iload 1, 1), (.iload 2, 1), (.aload 0, 1), (.getfield 1209, 3), (.iload 1, 1), (.iaload, 1), (.iconst (-1), 1)] (S' := (32, [(0, .inr (.inr (some (12, 0)))), (1, .inl x1), (2, .inl x2)], [.inl (-1 : Int32), .inl (rg M2 1309 0 (nx x1)), .inl x2, .inl x1, .inr (.inr (some (12, 0)))], zfR M2)) (b := zin x1 10 && true) (by decide +kernel) rfl hg3 ?_
      refine zic_eq Hy.1 (off := 7) (tgt := 39) (by decide +kernel) (by decide) (fun hb6 => ?_) (fun hb6 => ?_)
      · replace h := zite_t h hb6
        refine zblq Hy.1 Hy.2.1 [(.iconst 0, 1)] (S' := (40, [(0, .inr (.inr (some (12, 0)))), (1, .inl x1), (2, .inl x2)], [.inl (0 : Int32), .inl x2, .inl x1, .inr (.inr (some (12, 0)))], zfR M2)) (b := true) (by decide +kernel) rfl rfl ?_
        refine zGo_keep [0, 1] rfl ?_
        exact m12_foretold_40_ok Hy hE x1 x1 x2 (0 : Int32) M2 h
      · replace h := zite_f h hb6
        refine zblq Hy.1 Hy.2.1 [(.iconst 1, 1), (.ldc 40, 3)] (S' := (40, [(0, .inr (.inr (some (12, 0)))), (1, .inl x1), (2, .inl x2)], [.inl (1 : Int32), .inl x2, .inl x1, .inr (.inr (some (12, 0)))], zfR M2)) (b := true) (by decide +kernel) rfl rfl ?_
        refine zGo_keep [0, 1] rfl ?_
        exact m12_foretold_40_ok Hy hE x1 x1 x2 (1 : Int32) M2 h
  · replace h := zite_t h hb8
    refine zblq Hy.1 Hy.2.1 [(.iconst (-2), 2)] (S' := (10, [(0, .inr (.inr (some (12, 0)))), (1, .inl x1), (2, .inl x2)], [.inl (-2 : Int32)], zfR M1)) (b := true) (by decide +kernel) rfl rfl ?_
    cases h
    exact zret_i Hy.1 Hy.2.2 hE (by decide +kernel)
theorem m12_foretold_met {l : Launch} {G : zG} (hG : zGok G) (hcn : zgcn G = zcR) {x1 : Int32} {x2 : Int32} {M : rM} {r : Int32} {M' : rM} (h : m12_foretold x1 x2 M = some (r, M')) : zMet l G yX12_foretold cX12_foretold 3 (some .int) 3 71 [.inr (.inr (some (12, 0))), .inl x1, .inl x2] (zfR M) (some (.inl r)) (zfR M') :=
  zMet_of hG tbX12_ok rfl (by decide +kernel) (Nat.le_of_ble_eq_true rfl) (fun X _ Z hA hE => m12_foretold_ok ⟨Z, hcn, hA⟩ hE x1 x2 M h)
abbrev q12_lifeFor : ByteArray × Nat × String × zT := (cX12_lifeFor, 7, RX12, tbX12)
def m12_lifeFor_81 (k6 : Int32 → Int32 → Int32 → Int32 → Int32 → rM → Option (Int32 × rM)) (x1 : Int32) (x2 : Int32) (x3 : Int32) (x5 : Int32) (t0 : Int32) (t1 : Int32) (t2 : Int32) (M : rM) : Option (Int32 × rM) := zgd (zin x1 10 && true) ((if (t0 + (t1 + t2)) ≤ (rg M 1302 0 (nx x1)) then k6 x1 x2 x3 (t0 + (t1 + t2)) (x5 + (1 : Int32)) M else some (x5, M)))
theorem m12_lifeFor_81_ok {X : zX} {G : zG} (Hy : zHy X G q12_lifeFor zcR 2 45 (some .int)) {r : Int32} {M' : rM} (hE : zEnd X G (some (.inl r)) (zfR M')) {k6 : Int32 → Int32 → Int32 → Int32 → Int32 → rM → Option (Int32 × rM)} (hk6 : ∀ (x1 : Int32) (x2 : Int32) (x3 : Int32) (x4 : Int32) (x5 : Int32) (M : rM), k6 x1 x2 x3 x4 x5 M = some (r, M') → zGo (X, q12_lifeFor, G) 0 0 (6, [(0, .inr (.inr (some (12, 0)))), (1, .inl x1), (2, .inl x2), (3, .inl x3), (4, .inl x4), (5, .inl x5)], [], zfR M)) (x1 : Int32) (x2 : Int32) (x3 : Int32) (x5 : Int32) (t0 : Int32) (t1 : Int32) (t2 : Int32) (M : rM) (h : m12_lifeFor_81 k6 x1 x2 x3 x5 t0 t1 t2 M = some (r, M')) : zGo (X, q12_lifeFor, G) 0 0 (81, [(0, .inr (.inr (some (12, 0)))), (1, .inl x1), (2, .inl x2), (3, .inl x3), (5, .inl x5)], [.inl t2, .inl t1, .inl t0], zfR M) := by
  unfold m12_lifeFor_81 at h
  obtain ⟨hg4, h⟩ := zgd_inv h
  refine zblq Hy.1 Hy.2.1 [(.iadd, 1), (.iadd, 1), (.istore 4, 2), (.iload 4, 2), (.aload 0, 1), (.getfield 1202, 3), (.iload 1, 1), (.iaload, 1)] (S' := (93, [(0, .inr (.inr (some (12, 0)))), (1, .inl x1), (2, .inl x2), (3, .inl x3), (4, .inl (t0 + (t1 + t2))), (5, .inl x5)], [.inl (rg M 1302 0 (nx x1)), .inl (t0 + (t1 + t2))], zfR M)) (b := zin x1 10 && true) (by decide +kernel) rfl hg4 ?_
  refine zic_le Hy.1 (off := 6) (tgt := 99) (by decide +kernel) (by decide) (fun hb5 => ?_) (fun hb5 => ?_)
  · replace h := zite_t h hb5
    refine zblq Hy.1 Hy.2.1 [(.iinc 5 1, 3), (.ldc 6, 3)] (S' := (6, [(0, .inr (.inr (some (12, 0)))), (1, .inl x1), (2, .inl x2), (3, .inl x3), (4, .inl (t0 + (t1 + t2))), (5, .inl (x5 + (1 : Int32)))], [], zfR M)) (b := true) (by decide +kernel) rfl rfl ?_
    refine zGo_keep [0, 1, 2, 3, 4, 5] rfl ?_
    exact hk6 x1 x2 x3 (t0 + (t1 + t2)) (x5 + (1 : Int32)) M h
  · replace h := zite_f h hb5
    refine zblq Hy.1 Hy.2.1 [(.iload 5, 2)] (S' := (98, [(0, .inr (.inr (some (12, 0)))), (1, .inl x1), (2, .inl x2), (3, .inl x3), (4, .inl (t0 + (t1 + t2))), (5, .inl x5)], [.inl x5], zfR M)) (b := true) (by decide +kernel) rfl rfl ?_
    cases h
    exact zret_i Hy.1 Hy.2.2 hE (by decide +kernel)
def m12_lifeFor_68 (k6 : Int32 → Int32 → Int32 → Int32 → Int32 → rM → Option (Int32 × rM)) (x1 : Int32) (x2 : Int32) (x3 : Int32) (x5 : Int32) (t0 : Int32) (t1 : Int32) (t2 : Int32) (M : rM) : Option (Int32 × rM) := zgd (zin (3 : Int32) 7 && true) (m12_lifeFor_81 k6 x1 x2 x3 x5 t0 t1 (t2 + (x3 * (rg M 1312 0 (nx (3 : Int32))))) M)
theorem m12_lifeFor_68_ok {X : zX} {G : zG} (Hy : zHy X G q12_lifeFor zcR 2 45 (some .int)) {r : Int32} {M' : rM} (hE : zEnd X G (some (.inl r)) (zfR M')) {k6 : Int32 → Int32 → Int32 → Int32 → Int32 → rM → Option (Int32 × rM)} (hk6 : ∀ (x1 : Int32) (x2 : Int32) (x3 : Int32) (x4 : Int32) (x5 : Int32) (M : rM), k6 x1 x2 x3 x4 x5 M = some (r, M') → zGo (X, q12_lifeFor, G) 0 0 (6, [(0, .inr (.inr (some (12, 0)))), (1, .inl x1), (2, .inl x2), (3, .inl x3), (4, .inl x4), (5, .inl x5)], [], zfR M)) (x1 : Int32) (x2 : Int32) (x3 : Int32) (x5 : Int32) (t0 : Int32) (t1 : Int32) (t2 : Int32) (M : rM) (h : m12_lifeFor_68 k6 x1 x2 x3 x5 t0 t1 t2 M = some (r, M')) : zGo (X, q12_lifeFor, G) 0 0 (68, [(0, .inr (.inr (some (12, 0)))), (1, .inl x1), (2, .inl x2), (3, .inl x3), (5, .inl x5)], [.inl t2, .inl t1, .inl t0], zfR M) := by
  unfold m12_lifeFor_68 at h
  obtain ⟨hg6, h⟩ := zgd_inv h
  refine zblq Hy.1 Hy.2.1 [(.iload 3, 1), (.aload 0, 1), (.getfield 1212, 3), (.iconst 3, 1), (.iaload, 1), (.imul, 1), (.iadd, 1), (.ldc 81, 3)] (S' := (81, [(0, .inr (.inr (some (12, 0)))), (1, .inl x1), (2, .inl x2), (3, .inl x3), (5, .inl x5)], [.inl (t2 + (x3 * (rg M 1312 0 (nx (3 : Int32))))), .inl t1, .inl t0], zfR M)) (b := zin (3 : Int32) 7 && true) (by decide +kernel) rfl hg6 ?_
  refine zGo_keep [0, 1, 2, 3, 5] rfl ?_
  exact m12_lifeFor_81_ok Hy hE hk6 x1 x2 x3 x5 t0 t1 (t2 + (x3 * (rg M 1312 0 (nx (3 : Int32))))) M h
def m12_lifeFor_44 (k6 : Int32 → Int32 → Int32 → Int32 → Int32 → rM → Option (Int32 × rM)) (x1 : Int32) (x2 : Int32) (x3 : Int32) (x5 : Int32) (x6 : Int32) (t0 : Int32) (t2 : Int32) (M : rM) : Option (Int32 × rM) := zgd (zin t2 7 && true) (zbd (m12_isEpoch x6 M) (fun r3 M3 => (if r3 = 0 then m12_lifeFor_81 k6 x1 x2 x3 x5 t0 (rg M 1312 0 (nx t2)) (0 : Int32) M3 else (if x2 = 0 then m12_lifeFor_68 k6 x1 x2 x3 x5 t0 (rg M 1312 0 (nx t2)) (0 : Int32) M3 else zgd (zin (2 : Int32) 7 && true) (m12_lifeFor_68 k6 x1 x2 x3 x5 t0 (rg M 1312 0 (nx t2)) (rg M3 1312 0 (nx (2 : Int32))) M3)))))
theorem m12_lifeFor_44_ok {X : zX} {G : zG} (Hy : zHy X G q12_lifeFor zcR 2 45 (some .int)) {r : Int32} {M' : rM} (hE : zEnd X G (some (.inl r)) (zfR M')) {k6 : Int32 → Int32 → Int32 → Int32 → Int32 → rM → Option (Int32 × rM)} (hk6 : ∀ (x1 : Int32) (x2 : Int32) (x3 : Int32) (x4 : Int32) (x5 : Int32) (M : rM), k6 x1 x2 x3 x4 x5 M = some (r, M') → zGo (X, q12_lifeFor, G) 0 0 (6, [(0, .inr (.inr (some (12, 0)))), (1, .inl x1), (2, .inl x2), (3, .inl x3), (4, .inl x4), (5, .inl x5)], [], zfR M)) (x1 : Int32) (x2 : Int32) (x3 : Int32) (x5 : Int32) (x6 : Int32) (t0 : Int32) (t2 : Int32) (M : rM) (h : m12_lifeFor_44 k6 x1 x2 x3 x5 x6 t0 t2 M = some (r, M')) : zGo (X, q12_lifeFor, G) 0 0 (44, [(0, .inr (.inr (some (12, 0)))), (1, .inl x1), (2, .inl x2), (3, .inl x3), (5, .inl x5), (6, .inl x6)], [.inl t2, .inr (.inr (some (1312, 0))), .inl t0], zfR M) := by
  unfold m12_lifeFor_44 at h
  obtain ⟨hg2, h⟩ := zgd_inv h
  refine zblq Hy.1 Hy.2.1 [(.iaload, 1), (.aload 0, 1), (.iload 6, 2)] (S' := (48, [(0, .inr (.inr (some (12, 0)))), (1, .inl x1), (2, .inl x2), (3, .inl x3), (5, .inl x5), (6, .inl x6)], [.inl x6, .inr (.inr (some (12, 0))), .inl (rg M 1312 0 (nx t2)), .inl t0], zfR M)) (b := zin t2 7 && true) (by decide +kernel) rfl hg2 ?_
  obtain ⟨r3, M3, hc3, h⟩ := zbd_inv h
  refine zcallV Hy.1 (as := [.inl x6]) (st := [.inl (rg M 1312 0 (nx t2)), .inl t0]) (m12_isEpoch_met (zOK_G Hy.1) Hy.2.1 hc3) cw12_345 m12_isEpoch_in m12_isEpoch_se (by decide) (zhlv Hy.2.1 rfl) rfl (zroom Hy.2.2 ⟨by decide, by decide⟩) rfl (by decide +kernel) ⟨Nat.zero_le _, Nat.zero_le _⟩ ?_
  refine zif_eq Hy.1 (off := 29) (tgt := 80) (by decide +kernel) (by decide) (fun hb9 => ?_) (fun hb9 => ?_)
  · replace h := zite_t h hb9
    refine zblq Hy.1 Hy.2.1 [(.iconst 0, 1)] (S' := (81, [(0, .inr (.inr (some (12, 0)))), (1, .inl x1), (2, .inl x2), (3, .inl x3), (5, .inl x5), (6, .inl x6)], [.inl (0 : Int32), .inl (rg M 1312 0 (nx t2)), .inl t0], zfR M3)) (b := true) (by decide +kernel) rfl rfl ?_
    refine zGo_keep [0, 1, 2, 3, 5] rfl ?_
    exact m12_lifeFor_81_ok Hy hE hk6 x1 x2 x3 x5 t0 (rg M 1312 0 (nx t2)) (0 : Int32) M3 h
  · replace h := zite_f h hb9
    refine zblq Hy.1 Hy.2.1 [(.iload 2, 1)] (S' := (55, [(0, .inr (.inr (some (12, 0)))), (1, .inl x1), (2, .inl x2), (3, .inl x3), (5, .inl x5), (6, .inl x6)], [.inl x2, .inl (rg M 1312 0 (nx t2)), .inl t0], zfR M3)) (b := true) (by decide +kernel) rfl rfl ?_
    refine zif_eq Hy.1 (off := 12) (tgt := 67) (by decide +kernel) (by decide) (fun hb8 => ?_) (fun hb8 => ?_)
    · replace h := zite_t h hb8
      refine zblq Hy.1 Hy.2.1 [(.iconst 0, 1)] (S' := (68, [(0, .inr (.inr (some (12, 0)))), (1, .inl x1), (2, .inl x2), (3, .inl x3), (5, .inl x5), (6, .inl x6)], [.inl (0 : Int32), .inl (rg M 1312 0 (nx t2)), .inl t0], zfR M3)) (b := true) (by decide +kernel) rfl rfl ?_
      refine zGo_keep [0, 1, 2, 3, 5] rfl ?_
      exact m12_lifeFor_68_ok Hy hE hk6 x1 x2 x3 x5 t0 (rg M 1312 0 (nx t2)) (0 : Int32) M3 h
    · replace h := zite_f h hb8
      obtain ⟨hg7, h⟩ := zgd_inv h
      refine zblq Hy.1 Hy.2.1 [(.aload 0, 1), (.getfield 1212, 3), (.iconst 2, 1), (.iaload, 1), (.ldc 68, 3)] (S' := (68, [(0, .inr (.inr (some (12, 0)))), (1, .inl x1), (2, .inl x2), (3, .inl x3), (5, .inl x5), (6, .inl x6)], [.inl (rg M3 1312 0 (nx (2 : Int32))), .inl (rg M 1312 0 (nx t2)), .inl t0], zfR M3)) (b := zin (2 : Int32) 7 && true) (by decide +kernel) rfl hg7 ?_
      refine zGo_keep [0, 1, 2, 3, 5] rfl ?_
      exact m12_lifeFor_68_ok Hy hE hk6 x1 x2 x3 x5 t0 (rg M 1312 0 (nx t2)) (rg M3 1312 0 (nx (2 : Int32))) M3 h
def m12_lifeFor_6 : Nat → Int32 → Int32 → Int32 → Int32 → Int32 → rM → Option (Int32 × rM)
  | 0, _, _, _, _, _, _ => none
  | n + 1, x1, x2, x3, x4, x5, M => (if (1000 : Int32) ≤ x5 then some ((1000 : Int32), M) else zbd (m12_isOn x1 ((rg M 12 0 13) + x5) M) (fun r1 M1 => (if r1 = 0 then m12_lifeFor_44 (m12_lifeFor_6 n) x1 x2 x3 x5 ((rg M 12 0 13) + x5) x4 (0 : Int32) M1 else m12_lifeFor_44 (m12_lifeFor_6 n) x1 x2 x3 x5 ((rg M 12 0 13) + x5) x4 (1 : Int32) M1)))
theorem m12_lifeFor_6_ok {X : zX} {G : zG} (Hy : zHy X G q12_lifeFor zcR 2 45 (some .int)) {r : Int32} {M' : rM} (hE : zEnd X G (some (.inl r)) (zfR M')) : ∀ (n : Nat) (x1 : Int32) (x2 : Int32) (x3 : Int32) (x4 : Int32) (x5 : Int32) (M : rM), m12_lifeFor_6 n x1 x2 x3 x4 x5 M = some (r, M') → zGo (X, q12_lifeFor, G) 0 0 (6, [(0, .inr (.inr (some (12, 0)))), (1, .inl x1), (2, .inl x2), (3, .inl x3), (4, .inl x4), (5, .inl x5)], [], zfR M) := by
  intro n
  induction n with
  | zero => intro x1 x2 x3 x4 x5 M h; cases h
  | succ n ih =>
    intro x1 x2 x3 x4 x5 M h
    unfold m12_lifeFor_6 at h
    refine zblq Hy.1 Hy.2.1 [(.iload 5, 2), (.iconst 1000, 3)] (S' := (11, [(0, .inr (.inr (some (12, 0)))), (1, .inl x1), (2, .inl x2), (3, .inl x3), (4, .inl x4), (5, .inl x5)], [.inl (1000 : Int32), .inl x5], zfR M)) (b := true) (by decide +kernel) rfl rfl ?_
    refine zic_ge Hy.1 (off := 94) (tgt := 105) (by decide +kernel) (by decide) (fun hb11 => ?_) (fun hb11 => ?_)
    · replace h := zite_t h hb11
      refine zblq Hy.1 Hy.2.1 [(.iconst 1000, 3)] (S' := (108, [(0, .inr (.inr (some (12, 0)))), (1, .inl x1), (2, .inl x2), (3, .inl x3), (4, .inl x4), (5, .inl x5)], [.inl (1000 : Int32)], zfR M)) (b := true) (by decide +kernel) rfl rfl ?_
      cases h
      exact zret_i Hy.1 Hy.2.2 hE (by decide +kernel)
    · replace h := zite_f h hb11
      refine zblq Hy.1 Hy.2.1 [(.aload 0, 1), (.multianewarray 12 13, 3), (.iload 5, 2), (.iadd, 1), (.istore 6, 2), (.iload 4, 2), (.aload 0, 1), (.getfield 1212, 3), (.aload 0, 1), (.iload 1, 1), (.iload 6, 2)] (S' := (33, [(0, .inr (.inr (some (12, 0)))), (1, .inl x1), (2, .inl x2), (3, .inl x3), (4, .inl x4), (5, .inl x5), (6, .inl ((rg M 12 0 13) + x5))], [.inl ((rg M 12 0 13) + x5), .inl x1, .inr (.inr (some (12, 0))), .inr (.inr (some (1312, 0))), .inl x4], zfR M)) (b := true) (by decide +kernel) rfl rfl ?_
      obtain ⟨r1, M1, hc1, h⟩ := zbd_inv h
      refine zcallV Hy.1 (as := [.inl x1, .inl ((rg M 12 0 13) + x5)]) (st := [.inr (.inr (some (1312, 0))), .inl x4]) (m12_isOn_met (zOK_G Hy.1) Hy.2.1 hc1) cw12_194 m12_isOn_in m12_isOn_se (by decide) (zhlv Hy.2.1 rfl) rfl (zroom Hy.2.2 ⟨by decide, by decide⟩) rfl (by decide +kernel) ⟨Nat.zero_le _, Nat.zero_le _⟩ ?_
      refine zif_eq Hy.1 (off := 7) (tgt := 43) (by decide +kernel) (by decide) (fun hb10 => ?_) (fun hb10 => ?_)
      · replace h := zite_t h hb10
        refine zblq Hy.1 Hy.2.1 [(.iconst 0, 1)] (S' := (44, [(0, .inr (.inr (some (12, 0)))), (1, .inl x1), (2, .inl x2), (3, .inl x3), (4, .inl x4), (5, .inl x5), (6, .inl ((rg M 12 0 13) + x5))], [.inl (0 : Int32), .inr (.inr (some (1312, 0))), .inl x4], zfR M1)) (b := true) (by decide +kernel) rfl rfl ?_
        refine zGo_keep [0, 1, 2, 3, 5, 6] rfl ?_
        exact m12_lifeFor_44_ok Hy hE ih x1 x2 x3 x5 ((rg M 12 0 13) + x5) x4 (0 : Int32) M1 h
      · replace h := zite_f h hb10
        refine zblq Hy.1 Hy.2.1 [(.iconst 1, 1), (.ldc 44, 3)] (S' := (44, [(0, .inr (.inr (some (12, 0)))), (1, .inl x1), (2, .inl x2), (3, .inl x3), (4, .inl x4), (5, .inl x5), (6, .inl ((rg M 12 0 13) + x5))], [.inl (1 : Int32), .inr (.inr (some (1312, 0))), .inl x4], zfR M1)) (b := true) (by decide +kernel) rfl rfl ?_
        refine zGo_keep [0, 1, 2, 3, 5, 6] rfl ?_
        exact m12_lifeFor_44_ok Hy hE ih x1 x2 x3 x5 ((rg M 12 0 13) + x5) x4 (1 : Int32) M1 h
def m12_lifeFor (x1 : Int32) (x2 : Int32) (x3 : Int32) (M : rM) : Option (Int32 × rM) := m12_lifeFor_6 zfu x1 x2 x3 (0 : Int32) (0 : Int32) M
theorem m12_lifeFor_ok {X : zX} {G : zG} (Hy : zHy X G q12_lifeFor zcR 2 45 (some .int)) {r : Int32} {M' : rM} (hE : zEnd X G (some (.inl r)) (zfR M')) (x1 : Int32) (x2 : Int32) (x3 : Int32) (M : rM) (h : m12_lifeFor x1 x2 x3 M = some (r, M')) : zGo (X, q12_lifeFor, G) 0 0 (0, [(0, .inr (.inr (some (12, 0)))), (1, .inl x1), (2, .inl x2), (3, .inl x3)], [], zfR M) := by
  unfold m12_lifeFor at h
  refine zblq Hy.1 Hy.2.1 [(.iconst 0, 1), (.istore 4, 2), (.iconst 0, 1), (.istore 5, 2)] (S' := (6, [(0, .inr (.inr (some (12, 0)))), (1, .inl x1), (2, .inl x2), (3, .inl x3), (4, .inl (0 : Int32)), (5, .inl (0 : Int32))], [], zfR M)) (b := true) (by decide +kernel) rfl rfl ?_
  refine zGo_keep [0, 1, 2, 3, 4, 5] rfl ?_
  exact m12_lifeFor_6_ok Hy hE zfu x1 x2 x3 (0 : Int32) (0 : Int32) M h
theorem m12_lifeFor_met {l : Launch} {G : zG} (hG : zGok G) (hcn : zgcn G = zcR) {x1 : Int32} {x2 : Int32} {x3 : Int32} {M : rM} {r : Int32} {M' : rM} (h : m12_lifeFor x1 x2 x3 M = some (r, M')) : zMet l G yX12_lifeFor cX12_lifeFor 7 (some .int) 2 45 [.inr (.inr (some (12, 0))), .inl x1, .inl x2, .inl x3] (zfR M) (some (.inl r)) (zfR M') :=
  zMet_of hG tbX12_ok rfl (by decide +kernel) (Nat.le_of_ble_eq_true rfl) (fun X _ Z hA hE => m12_lifeFor_ok ⟨Z, hcn, hA⟩ hE x1 x2 x3 M h)
abbrev q12_life : ByteArray × Nat × String × zT := (cX12_life, 2, RX12, tbX12)
def m12_life_25 (x1 : Int32) (t1 : Int32) (t2 : Int32) (M : rM) : Option (Int32 × rM) := zbd (m12_childrenOf x1 M) (fun r3 M3 => zbd (m12_lifeFor t1 t2 r3 M3) (fun r4 M4 => some (r4, M4)))
theorem m12_life_25_ok {X : zX} {G : zG} (Hy : zHy X G q12_life zcR 3 71 (some .int)) {r : Int32} {M' : rM} (hE : zEnd X G (some (.inl r)) (zfR M')) (x1 : Int32) (t1 : Int32) (t2 : Int32) (M : rM) (h : m12_life_25 x1 t1 t2 M = some (r, M')) : zGo (X, q12_life, G) 0 0 (25, [(0, .inr (.inr (some (12, 0)))), (1, .inl x1)], [.inl t2, .inl t1, .inr (.inr (some (12, 0)))], zfR M) := by
  unfold m12_life_25 at h
  refine zblq Hy.1 Hy.2.1 [(.aload 0, 1), (.iload 1, 1)] (S' := (27, [(0, .inr (.inr (some (12, 0)))), (1, .inl x1)], [.inl x1, .inr (.inr (some (12, 0))), .inl t2, .inl t1, .inr (.inr (some (12, 0)))], zfR M)) (b := true) (by decide +kernel) rfl rfl ?_
  obtain ⟨r3, M3, hc3, h⟩ := zbd_inv h
  refine zcallV Hy.1 (as := [.inl x1]) (st := [.inl t2, .inl t1, .inr (.inr (some (12, 0)))]) (m12_childrenOf_met (zOK_G Hy.1) Hy.2.1 hc3) cw12_348 m12_childrenOf_in m12_childrenOf_se (by decide) (zhlv Hy.2.1 rfl) rfl (zroom Hy.2.2 ⟨by decide, by decide⟩) rfl (by decide +kernel) ⟨Nat.zero_le _, Nat.zero_le _⟩ ?_
  obtain ⟨r4, M4, hc4, h⟩ := zbd_inv h
  refine zcallV Hy.1 (as := [.inl t1, .inl t2, .inl r3]) (st := []) (m12_lifeFor_met (zOK_G Hy.1) Hy.2.1 hc4) cw12_355 m12_lifeFor_in m12_lifeFor_se (by decide) (zhlv Hy.2.1 rfl) rfl (zroom Hy.2.2 ⟨by decide, by decide⟩) rfl (by decide +kernel) ⟨Nat.zero_le _, Nat.zero_le _⟩ ?_
  refine zblq Hy.1 Hy.2.1 [(.ldc 38, 3)] (S' := (38, [(0, .inr (.inr (some (12, 0)))), (1, .inl x1)], [.inl r4], zfR M4)) (b := true) (by decide +kernel) rfl rfl ?_
  cases h
  exact zret_i Hy.1 Hy.2.2 hE (by decide +kernel)
def m12_life (x1 : Int32) (M : rM) : Option (Int32 × rM) := zbd (m12_isBox x1 M) (fun r1 M1 => (if r1 = 0 then some ((-2 : Int32), M1) else zgd (zin x1 10 && true) ((if (rg M1 1309 0 (nx x1)) = (-1 : Int32) then m12_life_25 x1 x1 (0 : Int32) M1 else m12_life_25 x1 x1 (1 : Int32) M1))))
theorem m12_life_ok {X : zX} {G : zG} (Hy : zHy X G q12_life zcR 3 71 (some .int)) {r : Int32} {M' : rM} (hE : zEnd X G (some (.inl r)) (zfR M')) (x1 : Int32) (M : rM) (h : m12_life x1 M = some (r, M')) : zGo (X, q12_life, G) 0 0 (0, [(0, .inr (.inr (some (12, 0)))), (1, .inl x1)], [], zfR M) := by
  unfold m12_life at h
  refine zblq Hy.1 Hy.2.1 [(.aload 0, 1), (.iload 1, 1)] (S' := (2, [(0, .inr (.inr (some (12, 0)))), (1, .inl x1)], [.inl x1, .inr (.inr (some (12, 0)))], zfR M)) (b := true) (by decide +kernel) rfl rfl ?_
  obtain ⟨r1, M1, hc1, h⟩ := zbd_inv h
  refine zcallV Hy.1 (as := [.inl x1]) (st := []) (m12_isBox_met (zOK_G Hy.1) Hy.2.1 hc1) cw12_175 m12_isBox_in m12_isBox_se (by decide) (zhlv Hy.2.1 rfl) rfl (zroom Hy.2.2 ⟨by decide, by decide⟩) rfl (by decide +kernel) ⟨Nat.zero_le _, Nat.zero_le _⟩ ?_
  refine zif_eq Hy.1 (off := 31) (tgt := 36) (by decide +kernel) (by decide) (fun hb6 => ?_) (fun hb6 => ?_)
  · replace h := zite_t h hb6
    refine zblq Hy.1 Hy.2.1 [(.iconst (-2), 2)] (S' := (38, [(0, .inr (.inr (some (12, 0)))), (1, .inl x1)], [.inl (-2 : Int32)], zfR M1)) (b := true) (by decide +kernel) rfl rfl ?_
    cases h
    exact zret_i Hy.1 Hy.2.2 hE (by decide +kernel)
  · replace h := zite_f h hb6
    obtain ⟨hg2, h⟩ := zgd_inv h
    refine zblq Hy.1 Hy.2.1 [(.aload 0, 1), (.iload 1, 1), (.aload 0, 1), (.getfield 1209, 3), (.iload 1, 1), (.iaload, 1), (.iconst (-1), 1)] (S' := (17, [(0, .inr (.inr (some (12, 0)))), (1, .inl x1)], [.inl (-1 : Int32), .inl (rg M1 1309 0 (nx x1)), .inl x1, .inr (.inr (some (12, 0)))], zfR M1)) (b := zin x1 10 && true) (by decide +kernel) rfl hg2 ?_
    refine zic_eq Hy.1 (off := 7) (tgt := 24) (by decide +kernel) (by decide) (fun hb5 => ?_) (fun hb5 => ?_)
    · replace h := zite_t h hb5
      refine zblq Hy.1 Hy.2.1 [(.iconst 0, 1)] (S' := (25, [(0, .inr (.inr (some (12, 0)))), (1, .inl x1)], [.inl (0 : Int32), .inl x1, .inr (.inr (some (12, 0)))], zfR M1)) (b := true) (by decide +kernel) rfl rfl ?_
      refine zGo_keep [0, 1] rfl ?_
      exact m12_life_25_ok Hy hE x1 x1 (0 : Int32) M1 h
    · replace h := zite_f h hb5
      refine zblq Hy.1 Hy.2.1 [(.iconst 1, 1), (.ldc 25, 3)] (S' := (25, [(0, .inr (.inr (some (12, 0)))), (1, .inl x1)], [.inl (1 : Int32), .inl x1, .inr (.inr (some (12, 0)))], zfR M1)) (b := true) (by decide +kernel) rfl rfl ?_
      refine zGo_keep [0, 1] rfl ?_
      exact m12_life_25_ok Hy hE x1 x1 (1 : Int32) M1 h
theorem m12_life_met {l : Launch} {G : zG} (hG : zGok G) (hcn : zgcn G = zcR) {x1 : Int32} {M : rM} {r : Int32} {M' : rM} (h : m12_life x1 M = some (r, M')) : zMet l G yX12_life cX12_life 2 (some .int) 3 71 [.inr (.inr (some (12, 0))), .inl x1] (zfR M) (some (.inl r)) (zfR M') :=
  zMet_of hG tbX12_ok rfl (by decide +kernel) (Nat.le_of_ble_eq_true rfl) (fun X _ Z hA hE => m12_life_ok ⟨Z, hcn, hA⟩ hE x1 M h)
abbrev q12_findHome : ByteArray × Nat × String × zT := (cX12_findHome, 4, RX12, tbX12)
def m12_findHome_139 (k42 : Int32 → rM → Option rM) (k50 : Int32 → Int32 → rM → Option rM) (x1 : Int32) (x2 : Int32) (M : rM) : Option rM := k50 x1 (x2 + (1 : Int32)) M
theorem m12_findHome_139_ok {X : zX} {G : zG} (Hy : zHy X G q12_findHome zcR 2 43 (none)) {M' : rM} (hE : zEnd X G (none) (zfR M')) {k42 : Int32 → rM → Option rM} (hk42 : ∀ (x1 : Int32) (M : rM), k42 x1 M = some M' → zGo (X, q12_findHome, G) 0 0 (42, [(0, .inr (.inr (some (12, 0)))), (1, .inl x1)], [], zfR M)) {k50 : Int32 → Int32 → rM → Option rM} (hk50 : ∀ (x1 : Int32) (x2 : Int32) (M : rM), k50 x1 x2 M = some M' → zGo (X, q12_findHome, G) 0 0 (50, [(0, .inr (.inr (some (12, 0)))), (1, .inl x1), (2, .inl x2)], [], zfR M)) (x1 : Int32) (x2 : Int32) (M : rM) (h : m12_findHome_139 k42 k50 x1 x2 M = some M') : zGo (X, q12_findHome, G) 0 0 (139, [(0, .inr (.inr (some (12, 0)))), (1, .inl x1), (2, .inl x2)], [], zfR M) := by
  unfold m12_findHome_139 at h
  refine zblq Hy.1 Hy.2.1 [(.iinc 2 1, 3), (.ldc 50, 3)] (S' := (50, [(0, .inr (.inr (some (12, 0)))), (1, .inl x1), (2, .inl (x2 + (1 : Int32)))], [], zfR M)) (b := true) (by decide +kernel) rfl rfl ?_
  refine zGo_keep [0, 1, 2] rfl ?_
  exact hk50 x1 (x2 + (1 : Int32)) M h
def m12_findHome_132 (k42 : Int32 → rM → Option rM) (k50 : Int32 → Int32 → rM → Option rM) (k60 : Int32 → Int32 → Int32 → rM → Option rM) (x1 : Int32) (x2 : Int32) (x3 : Int32) (t1 : Int32) (t2 : Int32) (M : rM) : Option rM := zgd (zin t1 10 && true) (k60 x1 x2 (x3 + (1 : Int32)) (rs M 1346 0 (nx t1) t2))
theorem m12_findHome_132_ok {X : zX} {G : zG} (Hy : zHy X G q12_findHome zcR 2 43 (none)) {M' : rM} (hE : zEnd X G (none) (zfR M')) {k42 : Int32 → rM → Option rM} (hk42 : ∀ (x1 : Int32) (M : rM), k42 x1 M = some M' → zGo (X, q12_findHome, G) 0 0 (42, [(0, .inr (.inr (some (12, 0)))), (1, .inl x1)], [], zfR M)) {k50 : Int32 → Int32 → rM → Option rM} (hk50 : ∀ (x1 : Int32) (x2 : Int32) (M : rM), k50 x1 x2 M = some M' → zGo (X, q12_findHome, G) 0 0 (50, [(0, .inr (.inr (some (12, 0)))), (1, .inl x1), (2, .inl x2)], [], zfR M)) {k60 : Int32 → Int32 → Int32 → rM → Option rM} (hk60 : ∀ (x1 : Int32) (x2 : Int32) (x3 : Int32) (M : rM), k60 x1 x2 x3 M = some M' → zGo (X, q12_findHome, G) 0 0 (60, [(0, .inr (.inr (some (12, 0)))), (1, .inl x1), (2, .inl x2), (3, .inl x3)], [], zfR M)) (x1 : Int32) (x2 : Int32) (x3 : Int32) (t1 : Int32) (t2 : Int32) (M : rM) (h : m12_findHome_132 k42 k50 k60 x1 x2 x3 t1 t2 M = some M') : zGo (X, q12_findHome, G) 0 0 (132, [(0, .inr (.inr (some (12, 0)))), (1, .inl x1), (2, .inl x2), (3, .inl x3)], [.inl t2, .inl t1, .inr (.inr (some (1346, 0)))], zfR M) := by
  unfold m12_findHome_132 at h
  obtain ⟨hg5, h⟩ := zgd_inv h
  refine zblq Hy.1 Hy.2.1 [(.iastore, 1), (.iinc 3 1, 3), (.ldc 60, 3)] (S' := (60, [(0, .inr (.inr (some (12, 0)))), (1, .inl x1), (2, .inl x2), (3, .inl (x3 + (1 : Int32)))], [], zfR (rs M 1346 0 (nx t1) t2))) (b := zin t1 10 && true) (by decide +kernel) rfl hg5 ?_
  refine zGo_keep [0, 1, 2, 3] rfl ?_
  exact hk60 x1 x2 (x3 + (1 : Int32)) (rs M 1346 0 (nx t1) t2) h
def m12_findHome_126 (k42 : Int32 → rM → Option rM) (k50 : Int32 → Int32 → rM → Option rM) (k60 : Int32 → Int32 → Int32 → rM → Option rM) (x1 : Int32) (x2 : Int32) (x3 : Int32) (t1 : Int32) (M : rM) : Option rM := zgd (zin x2 10 && true) (m12_findHome_132 k42 k50 k60 x1 x2 x3 t1 (rg M 1346 0 (nx x2)) M)
theorem m12_findHome_126_ok {X : zX} {G : zG} (Hy : zHy X G q12_findHome zcR 2 43 (none)) {M' : rM} (hE : zEnd X G (none) (zfR M')) {k42 : Int32 → rM → Option rM} (hk42 : ∀ (x1 : Int32) (M : rM), k42 x1 M = some M' → zGo (X, q12_findHome, G) 0 0 (42, [(0, .inr (.inr (some (12, 0)))), (1, .inl x1)], [], zfR M)) {k50 : Int32 → Int32 → rM → Option rM} (hk50 : ∀ (x1 : Int32) (x2 : Int32) (M : rM), k50 x1 x2 M = some M' → zGo (X, q12_findHome, G) 0 0 (50, [(0, .inr (.inr (some (12, 0)))), (1, .inl x1), (2, .inl x2)], [], zfR M)) {k60 : Int32 → Int32 → Int32 → rM → Option rM} (hk60 : ∀ (x1 : Int32) (x2 : Int32) (x3 : Int32) (M : rM), k60 x1 x2 x3 M = some M' → zGo (X, q12_findHome, G) 0 0 (60, [(0, .inr (.inr (some (12, 0)))), (1, .inl x1), (2, .inl x2), (3, .inl x3)], [], zfR M)) (x1 : Int32) (x2 : Int32) (x3 : Int32) (t1 : Int32) (M : rM) (h : m12_findHome_126 k42 k50 k60 x1 x2 x3 t1 M = some M') : zGo (X, q12_findHome, G) 0 0 (126, [(0, .inr (.inr (some (12, 0)))), (1, .inl x1), (2, .inl x2), (3, .inl x3)], [.inl t1, .inr (.inr (some (1346, 0)))], zfR M) := by
  unfold m12_findHome_126 at h
  obtain ⟨hg4, h⟩ := zgd_inv h
  refine zblq Hy.1 Hy.2.1 [(.aload 0, 1), (.getfield 1246, 3), (.iload 2, 1), (.iaload, 1)] (S' := (132, [(0, .inr (.inr (some (12, 0)))), (1, .inl x1), (2, .inl x2), (3, .inl x3)], [.inl (rg M 1346 0 (nx x2)), .inl t1, .inr (.inr (some (1346, 0)))], zfR M)) (b := zin x2 10 && true) (by decide +kernel) rfl hg4 ?_
  refine zGo_keep [0, 1, 2, 3] rfl ?_
  exact m12_findHome_132_ok Hy hE hk42 hk50 hk60 x1 x2 x3 t1 (rg M 1346 0 (nx x2)) M h
def m12_findHome_60 (k42 : Int32 → rM → Option rM) (k50 : Int32 → Int32 → rM → Option rM) : Nat → Int32 → Int32 → Int32 → rM → Option rM
  | 0, _, _, _, _ => none
  | n + 1, x1, x2, x3, M => (if (rg M 12 0 0) ≤ x3 then m12_findHome_139 k42 k50 x1 x2 M else zgd (zin x2 10 && true) ((if (rg M 1346 0 (nx x2)) = (-1 : Int32) then zgd (zin x2 10 && true) ((if (rg M 1302 0 (nx x2)) ≤ 0 then m12_findHome_139 k42 k50 x1 x2 M else zgd (zin x3 10 && true) ((if (rg M 1346 0 (nx x3)) = x1 then zgd (zin x3 10 && true) ((if (rg M 1302 0 (nx x3)) ≤ 0 then m12_findHome_126 k42 k50 (m12_findHome_60 k42 k50 n) x1 x2 x3 x2 M else zbd (m12_areMates x3 x2 M) (fun r7 M7 => (if r7 = 0 then m12_findHome_126 k42 k50 (m12_findHome_60 k42 k50 n) x1 x2 x3 x2 M7 else m12_findHome_132 k42 k50 (m12_findHome_60 k42 k50 n) x1 x2 x3 x2 (x1 + (1 : Int32)) M7)))) else m12_findHome_126 k42 k50 (m12_findHome_60 k42 k50 n) x1 x2 x3 x2 M)))) else m12_findHome_139 k42 k50 x1 x2 M)))
theorem m12_findHome_60_ok {X : zX} {G : zG} (Hy : zHy X G q12_findHome zcR 2 43 (none)) {M' : rM} (hE : zEnd X G (none) (zfR M')) {k42 : Int32 → rM → Option rM} (hk42 : ∀ (x1 : Int32) (M : rM), k42 x1 M = some M' → zGo (X, q12_findHome, G) 0 0 (42, [(0, .inr (.inr (some (12, 0)))), (1, .inl x1)], [], zfR M)) {k50 : Int32 → Int32 → rM → Option rM} (hk50 : ∀ (x1 : Int32) (x2 : Int32) (M : rM), k50 x1 x2 M = some M' → zGo (X, q12_findHome, G) 0 0 (50, [(0, .inr (.inr (some (12, 0)))), (1, .inl x1), (2, .inl x2)], [], zfR M)) : ∀ (n : Nat) (x1 : Int32) (x2 : Int32) (x3 : Int32) (M : rM), m12_findHome_60 k42 k50 n x1 x2 x3 M = some M' → zGo (X, q12_findHome, G) 0 0 (60, [(0, .inr (.inr (some (12, 0)))), (1, .inl x1), (2, .inl x2), (3, .inl x3)], [], zfR M) := by
  intro n
  induction n with
  | zero => intro x1 x2 x3 M h; cases h
  | succ n ih =>
    intro x1 x2 x3 M h
    unfold m12_findHome_60 at h
    refine zblq Hy.1 Hy.2.1 [(.iload 3, 1), (.aload 0, 1), (.multianewarray 12 0, 3)] (S' := (65, [(0, .inr (.inr (some (12, 0)))), (1, .inl x1), (2, .inl x2), (3, .inl x3)], [.inl (rg M 12 0 0), .inl x3], zfR M)) (b := true) (by decide +kernel) rfl rfl ?_
    refine zic_ge Hy.1 (off := 74) (tgt := 139) (by decide +kernel) (by decide) (fun hb13 => ?_) (fun hb13 => ?_)
    · replace h := zite_t h hb13
      refine zGo_keep [0, 1, 2] rfl ?_
      exact m12_findHome_139_ok Hy hE hk42 hk50 x1 x2 M h
    · replace h := zite_f h hb13
      obtain ⟨hg1, h⟩ := zgd_inv h
      refine zblq Hy.1 Hy.2.1 [(.aload 0, 1), (.getfield 1246, 3), (.iload 2, 1), (.iaload, 1), (.iconst (-1), 1)] (S' := (75, [(0, .inr (.inr (some (12, 0)))), (1, .inl x1), (2, .inl x2), (3, .inl x3)], [.inl (-1 : Int32), .inl (rg M 1346 0 (nx x2))], zfR M)) (b := zin x2 10 && true) (by decide +kernel) rfl hg1 ?_
      refine zic_ne Hy.1 (off := 64) (tgt := 139) (by decide +kernel) (by decide) (fun hb12 => ?_) (fun hb12 => ?_)
      · replace h := zite_f h hb12
        refine zGo_keep [0, 1, 2] rfl ?_
        exact m12_findHome_139_ok Hy hE hk42 hk50 x1 x2 M h
      · replace h := zite_t h hb12
        obtain ⟨hg2, h⟩ := zgd_inv h
        refine zblq Hy.1 Hy.2.1 [(.aload 0, 1), (.getfield 1202, 3), (.iload 2, 1), (.iaload, 1)] (S' := (84, [(0, .inr (.inr (some (12, 0)))), (1, .inl x1), (2, .inl x2), (3, .inl x3)], [.inl (rg M 1302 0 (nx x2))], zfR M)) (b := zin x2 10 && true) (by decide +kernel) rfl hg2 ?_
        refine zif_le Hy.1 (off := 55) (tgt := 139) (by decide +kernel) (by decide) (fun hb11 => ?_) (fun hb11 => ?_)
        · replace h := zite_t h hb11
          refine zGo_keep [0, 1, 2] rfl ?_
          exact m12_findHome_139_ok Hy hE hk42 hk50 x1 x2 M h
        · replace h := zite_f h hb11
          obtain ⟨hg3, h⟩ := zgd_inv h
          refine zblq Hy.1 Hy.2.1 [(.aload 0, 1), (.getfield 1246, 3), (.iload 2, 1), (.aload 0, 1), (.getfield 1246, 3), (.iload 3, 1), (.iaload, 1), (.iload 1, 1)] (S' := (99, [(0, .inr (.inr (some (12, 0)))), (1, .inl x1), (2, .inl x2), (3, .inl x3)], [.inl x1, .inl (rg M 1346 0 (nx x3)), .inl x2, .inr (.inr (some (1346, 0)))], zfR M)) (b := zin x3 10 && true) (by decide +kernel) rfl hg3 ?_
          refine zic_ne Hy.1 (off := 27) (tgt := 126) (by decide +kernel) (by decide) (fun hb10 => ?_) (fun hb10 => ?_)
          · replace h := zite_f h hb10
            refine zGo_keep [0, 1, 2, 3] rfl ?_
            exact m12_findHome_126_ok Hy hE hk42 hk50 ih x1 x2 x3 x2 M h
          · replace h := zite_t h hb10
            obtain ⟨hg6, h⟩ := zgd_inv h
            refine zblq Hy.1 Hy.2.1 [(.aload 0, 1), (.getfield 1202, 3), (.iload 3, 1), (.iaload, 1)] (S' := (108, [(0, .inr (.inr (some (12, 0)))), (1, .inl x1), (2, .inl x2), (3, .inl x3)], [.inl (rg M 1302 0 (nx x3)), .inl x2, .inr (.inr (some (1346, 0)))], zfR M)) (b := zin x3 10 && true) (by decide +kernel) rfl hg6 ?_
            refine zif_le Hy.1 (off := 18) (tgt := 126) (by decide +kernel) (by decide) (fun hb9 => ?_) (fun hb9 => ?_)
            · replace h := zite_t h hb9
              refine zGo_keep [0, 1, 2, 3] rfl ?_
              exact m12_findHome_126_ok Hy hE hk42 hk50 ih x1 x2 x3 x2 M h
            · replace h := zite_f h hb9
              refine zblq Hy.1 Hy.2.1 [(.aload 0, 1), (.iload 3, 1), (.iload 2, 1)] (S' := (114, [(0, .inr (.inr (some (12, 0)))), (1, .inl x1), (2, .inl x2), (3, .inl x3)], [.inl x2, .inl x3, .inr (.inr (some (12, 0))), .inl x2, .inr (.inr (some (1346, 0)))], zfR M)) (b := true) (by decide +kernel) rfl rfl ?_
              obtain ⟨r7, M7, hc7, h⟩ := zbd_inv h
              refine zcallV Hy.1 (as := [.inl x3, .inl x2]) (st := [.inl x2, .inr (.inr (some (1346, 0)))]) (m12_areMates_met (zOK_G Hy.1) Hy.2.1 hc7) cw12_197 m12_areMates_in m12_areMates_se (by decide) (zhlv Hy.2.1 rfl) rfl (zroom Hy.2.2 ⟨by decide, by decide⟩) rfl (by decide +kernel) ⟨Nat.zero_le _, Nat.zero_le _⟩ ?_
              refine zif_eq Hy.1 (off := 9) (tgt := 126) (by decide +kernel) (by decide) (fun hb8 => ?_) (fun hb8 => ?_)
              · replace h := zite_t h hb8
                refine zGo_keep [0, 1, 2, 3] rfl ?_
                exact m12_findHome_126_ok Hy hE hk42 hk50 ih x1 x2 x3 x2 M7 h
              · replace h := zite_f h hb8
                refine zblq Hy.1 Hy.2.1 [(.iload 1, 1), (.iconst 1, 1), (.iadd, 1), (.ldc 132, 3)] (S' := (132, [(0, .inr (.inr (some (12, 0)))), (1, .inl x1), (2, .inl x2), (3, .inl x3)], [.inl (x1 + (1 : Int32)), .inl x2, .inr (.inr (some (1346, 0)))], zfR M7)) (b := true) (by decide +kernel) rfl rfl ?_
                refine zGo_keep [0, 1, 2, 3] rfl ?_
                exact m12_findHome_132_ok Hy hE hk42 hk50 ih x1 x2 x3 x2 (x1 + (1 : Int32)) M7 h
def m12_findHome_50 (k42 : Int32 → rM → Option rM) : Nat → Int32 → Int32 → rM → Option rM
  | 0, _, _, _ => none
  | n + 1, x1, x2, M => (if (rg M 12 0 0) ≤ x2 then k42 (x1 + (1 : Int32)) M else m12_findHome_60 k42 (m12_findHome_50 k42 n) zfu x1 x2 (0 : Int32) M)
theorem m12_findHome_50_ok {X : zX} {G : zG} (Hy : zHy X G q12_findHome zcR 2 43 (none)) {M' : rM} (hE : zEnd X G (none) (zfR M')) {k42 : Int32 → rM → Option rM} (hk42 : ∀ (x1 : Int32) (M : rM), k42 x1 M = some M' → zGo (X, q12_findHome, G) 0 0 (42, [(0, .inr (.inr (some (12, 0)))), (1, .inl x1)], [], zfR M)) : ∀ (n : Nat) (x1 : Int32) (x2 : Int32) (M : rM), m12_findHome_50 k42 n x1 x2 M = some M' → zGo (X, q12_findHome, G) 0 0 (50, [(0, .inr (.inr (some (12, 0)))), (1, .inl x1), (2, .inl x2)], [], zfR M) := by
  intro n
  induction n with
  | zero => intro x1 x2 M h; cases h
  | succ n ih =>
    intro x1 x2 M h
    unfold m12_findHome_50 at h
    refine zblq Hy.1 Hy.2.1 [(.iload 2, 1), (.aload 0, 1), (.multianewarray 12 0, 3)] (S' := (55, [(0, .inr (.inr (some (12, 0)))), (1, .inl x1), (2, .inl x2)], [.inl (rg M 12 0 0), .inl x2], zfR M)) (b := true) (by decide +kernel) rfl rfl ?_
    refine zic_ge Hy.1 (off := 90) (tgt := 145) (by decide +kernel) (by decide) (fun hb14 => ?_) (fun hb14 => ?_)
    · replace h := zite_t h hb14
      refine zblq Hy.1 Hy.2.1 [(.iinc 1 1, 3), (.ldc 42, 3)] (S' := (42, [(0, .inr (.inr (some (12, 0)))), (1, .inl (x1 + (1 : Int32))), (2, .inl x2)], [], zfR M)) (b := true) (by decide +kernel) rfl rfl ?_
      refine zGo_keep [0, 1] rfl ?_
      exact hk42 (x1 + (1 : Int32)) M h
    · replace h := zite_f h hb14
      refine zblq Hy.1 Hy.2.1 [(.iconst 0, 1), (.istore 3, 1)] (S' := (60, [(0, .inr (.inr (some (12, 0)))), (1, .inl x1), (2, .inl x2), (3, .inl (0 : Int32))], [], zfR M)) (b := true) (by decide +kernel) rfl rfl ?_
      refine zGo_keep [0, 1, 2, 3] rfl ?_
      exact m12_findHome_60_ok Hy hE hk42 ih zfu x1 x2 (0 : Int32) M h
def m12_findHome_42 : Nat → Int32 → rM → Option rM
  | 0, _, _ => none
  | n + 1, x1, M => (if (10 : Int32) ≤ x1 then some M else m12_findHome_50 (m12_findHome_42 n) zfu x1 (0 : Int32) M)
theorem m12_findHome_42_ok {X : zX} {G : zG} (Hy : zHy X G q12_findHome zcR 2 43 (none)) {M' : rM} (hE : zEnd X G (none) (zfR M')) : ∀ (n : Nat) (x1 : Int32) (M : rM), m12_findHome_42 n x1 M = some M' → zGo (X, q12_findHome, G) 0 0 (42, [(0, .inr (.inr (some (12, 0)))), (1, .inl x1)], [], zfR M) := by
  intro n
  induction n with
  | zero => intro x1 M h; cases h
  | succ n ih =>
    intro x1 M h
    unfold m12_findHome_42 at h
    refine zblq Hy.1 Hy.2.1 [(.iload 1, 1), (.iconst 10, 2)] (S' := (45, [(0, .inr (.inr (some (12, 0)))), (1, .inl x1)], [.inl (10 : Int32), .inl x1], zfR M)) (b := true) (by decide +kernel) rfl rfl ?_
    refine zic_ge Hy.1 (off := 106) (tgt := 151) (by decide +kernel) (by decide) (fun hb15 => ?_) (fun hb15 => ?_)
    · replace h := zite_t h hb15
      cases h
      exact zret_v Hy.1 Hy.2.2 hE (by decide +kernel)
    · replace h := zite_f h hb15
      refine zblq Hy.1 Hy.2.1 [(.iconst 0, 1), (.istore 2, 1)] (S' := (50, [(0, .inr (.inr (some (12, 0)))), (1, .inl x1), (2, .inl (0 : Int32))], [], zfR M)) (b := true) (by decide +kernel) rfl rfl ?_
      refine zGo_keep [0, 1, 2] rfl ?_
      exact m12_findHome_50_ok Hy hE ih zfu x1 (0 : Int32) M h
def m12_findHome_33 (k2 : Int32 → rM → Option rM) (x1 : Int32) (t1 : Int32) (t2 : Int32) (M : rM) : Option rM := zgd (zin t1 10 && true) (k2 (x1 + (1 : Int32)) (rs M 1346 0 (nx t1) t2))
theorem m12_findHome_33_ok {X : zX} {G : zG} (Hy : zHy X G q12_findHome zcR 2 43 (none)) {M' : rM} (hE : zEnd X G (none) (zfR M')) {k2 : Int32 → rM → Option rM} (hk2 : ∀ (x1 : Int32) (M : rM), k2 x1 M = some M' → zGo (X, q12_findHome, G) 0 0 (2, [(0, .inr (.inr (some (12, 0)))), (1, .inl x1)], [], zfR M)) (x1 : Int32) (t1 : Int32) (t2 : Int32) (M : rM) (h : m12_findHome_33 k2 x1 t1 t2 M = some M') : zGo (X, q12_findHome, G) 0 0 (33, [(0, .inr (.inr (some (12, 0)))), (1, .inl x1)], [.inl t2, .inl t1, .inr (.inr (some (1346, 0)))], zfR M) := by
  unfold m12_findHome_33 at h
  obtain ⟨hg16, h⟩ := zgd_inv h
  refine zblq Hy.1 Hy.2.1 [(.iastore, 1), (.iinc 1 1, 3), (.ldc 2, 3)] (S' := (2, [(0, .inr (.inr (some (12, 0)))), (1, .inl (x1 + (1 : Int32)))], [], zfR (rs M 1346 0 (nx t1) t2))) (b := zin t1 10 && true) (by decide +kernel) rfl hg16 ?_
  refine zGo_keep [0, 1] rfl ?_
  exact hk2 (x1 + (1 : Int32)) (rs M 1346 0 (nx t1) t2) h
def m12_findHome_2 : Nat → Int32 → rM → Option rM
  | 0, _, _ => none
  | n + 1, x1, M => (if (rg M 12 0 0) ≤ x1 then m12_findHome_42 zfu (0 : Int32) M else (if x1 = 0 then zgd (zin (0 : Int32) 10 && true) ((if (rg M 1302 0 (nx (0 : Int32))) ≤ 0 then m12_findHome_33 (m12_findHome_2 n) x1 x1 (-1 : Int32) M else m12_findHome_33 (m12_findHome_2 n) x1 x1 (0 : Int32) M)) else m12_findHome_33 (m12_findHome_2 n) x1 x1 (-1 : Int32) M))
theorem m12_findHome_2_ok {X : zX} {G : zG} (Hy : zHy X G q12_findHome zcR 2 43 (none)) {M' : rM} (hE : zEnd X G (none) (zfR M')) : ∀ (n : Nat) (x1 : Int32) (M : rM), m12_findHome_2 n x1 M = some M' → zGo (X, q12_findHome, G) 0 0 (2, [(0, .inr (.inr (some (12, 0)))), (1, .inl x1)], [], zfR M) := by
  intro n
  induction n with
  | zero => intro x1 M h; cases h
  | succ n ih =>
    intro x1 M h
    unfold m12_findHome_2 at h
    refine zblq Hy.1 Hy.2.1 [(.iload 1, 1), (.aload 0, 1), (.multianewarray 12 0, 3)] (S' := (7, [(0, .inr (.inr (some (12, 0)))), (1, .inl x1)], [.inl (rg M 12 0 0), .inl x1], zfR M)) (b := true) (by decide +kernel) rfl rfl ?_
    refine zic_ge Hy.1 (off := 33) (tgt := 40) (by decide +kernel) (by decide) (fun hb20 => ?_) (fun hb20 => ?_)
    · replace h := zite_t h hb20
      refine zblq Hy.1 Hy.2.1 [(.iconst 0, 1), (.istore 1, 1)] (S' := (42, [(0, .inr (.inr (some (12, 0)))), (1, .inl (0 : Int32))], [], zfR M)) (b := true) (by decide +kernel) rfl rfl ?_
      refine zGo_keep [0, 1] rfl ?_
      exact m12_findHome_42_ok Hy hE zfu (0 : Int32) M h
    · replace h := zite_f h hb20
      refine zblq Hy.1 Hy.2.1 [(.aload 0, 1), (.getfield 1246, 3), (.iload 1, 1), (.iload 1, 1)] (S' := (16, [(0, .inr (.inr (some (12, 0)))), (1, .inl x1)], [.inl x1, .inl x1, .inr (.inr (some (1346, 0)))], zfR M)) (b := true) (by decide +kernel) rfl rfl ?_
      refine zif_ne Hy.1 (off := 16) (tgt := 32) (by decide +kernel) (by decide) (fun hb19 => ?_) (fun hb19 => ?_)
      · replace h := zite_f h hb19
        refine zblq Hy.1 Hy.2.1 [(.iconst (-1), 1)] (S' := (33, [(0, .inr (.inr (some (12, 0)))), (1, .inl x1)], [.inl (-1 : Int32), .inl x1, .inr (.inr (some (1346, 0)))], zfR M)) (b := true) (by decide +kernel) rfl rfl ?_
        refine zGo_keep [0, 1] rfl ?_
        exact m12_findHome_33_ok Hy hE ih x1 x1 (-1 : Int32) M h
      · replace h := zite_t h hb19
        obtain ⟨hg17, h⟩ := zgd_inv h
        refine zblq Hy.1 Hy.2.1 [(.aload 0, 1), (.getfield 1202, 3), (.iconst 0, 1), (.iaload, 1)] (S' := (25, [(0, .inr (.inr (some (12, 0)))), (1, .inl x1)], [.inl (rg M 1302 0 (nx (0 : Int32))), .inl x1, .inr (.inr (some (1346, 0)))], zfR M)) (b := zin (0 : Int32) 10 && true) (by decide +kernel) rfl hg17 ?_
        refine zif_le Hy.1 (off := 7) (tgt := 32) (by decide +kernel) (by decide) (fun hb18 => ?_) (fun hb18 => ?_)
        · replace h := zite_t h hb18
          refine zblq Hy.1 Hy.2.1 [(.iconst (-1), 1)] (S' := (33, [(0, .inr (.inr (some (12, 0)))), (1, .inl x1)], [.inl (-1 : Int32), .inl x1, .inr (.inr (some (1346, 0)))], zfR M)) (b := true) (by decide +kernel) rfl rfl ?_
          refine zGo_keep [0, 1] rfl ?_
          exact m12_findHome_33_ok Hy hE ih x1 x1 (-1 : Int32) M h
        · replace h := zite_f h hb18
          refine zblq Hy.1 Hy.2.1 [(.iconst 0, 1), (.ldc 33, 3)] (S' := (33, [(0, .inr (.inr (some (12, 0)))), (1, .inl x1)], [.inl (0 : Int32), .inl x1, .inr (.inr (some (1346, 0)))], zfR M)) (b := true) (by decide +kernel) rfl rfl ?_
          refine zGo_keep [0, 1] rfl ?_
          exact m12_findHome_33_ok Hy hE ih x1 x1 (0 : Int32) M h
def m12_findHome  (M : rM) : Option rM := m12_findHome_2 zfu (0 : Int32) M
theorem m12_findHome_ok {X : zX} {G : zG} (Hy : zHy X G q12_findHome zcR 2 43 (none)) {M' : rM} (hE : zEnd X G (none) (zfR M'))  (M : rM) (h : m12_findHome M = some M') : zGo (X, q12_findHome, G) 0 0 (0, [(0, .inr (.inr (some (12, 0))))], [], zfR M) := by
  unfold m12_findHome at h
  refine zblq Hy.1 Hy.2.1 [(.iconst 0, 1), (.istore 1, 1)] (S' := (2, [(0, .inr (.inr (some (12, 0)))), (1, .inl (0 : Int32))], [], zfR M)) (b := true) (by decide +kernel) rfl rfl ?_
  refine zGo_keep [0, 1] rfl ?_
  exact m12_findHome_2_ok Hy hE zfu (0 : Int32) M h
theorem m12_findHome_met {l : Launch} {G : zG} (hG : zGok G) (hcn : zgcn G = zcR)  {M : rM} {M' : rM} (h : m12_findHome M = some M') : zMet l G yX12_findHome cX12_findHome 4 (none) 2 43 [.inr (.inr (some (12, 0)))] (zfR M) (none) (zfR M') :=
  zMet_of hG tbX12_ok rfl (by decide +kernel) (Nat.le_of_ble_eq_true rfl) (fun X _ Z hA hE => m12_findHome_ok ⟨Z, hcn, hA⟩ hE M h)
abbrev q12_mayLead : ByteArray × Nat × String × zT := (cX12_mayLead, 3, RX12, tbX12)
def m12_mayLead (x1 : Int32) (x2 : Int32) (M : rM) : Option (Int32 × rM) := zgd (zin x1 10 && true) ((if (rg M 1346 0 (nx x1)) ≤ 0 then some ((0 : Int32), M) else zgd (zin x2 10 && true) ((if (rg M 1302 0 (nx x2)) ≤ 0 then some ((0 : Int32), M) else zgd (zin x2 10 && (zin x1 10 && true)) ((if (rg M 1346 0 (nx x2)) = ((rg M 1346 0 (nx x1)) - (1 : Int32)) then zbd (m12_areMates x2 x1 M) (fun r4 M4 => (if r4 = 0 then some ((0 : Int32), M4) else some ((1 : Int32), M4))) else some ((0 : Int32), M)))))))
theorem m12_mayLead_ok {X : zX} {G : zG} (Hy : zHy X G q12_mayLead zcR 2 43 (some .boolean)) {r : Int32} {M' : rM} (hE : zEnd X G (some (.inl r)) (zfR M')) (x1 : Int32) (x2 : Int32) (M : rM) (h : m12_mayLead x1 x2 M = some (r, M')) : zGo (X, q12_mayLead, G) 0 0 (0, [(0, .inr (.inr (some (12, 0)))), (1, .inl x1), (2, .inl x2)], [], zfR M) := by
  unfold m12_mayLead at h
  obtain ⟨hg1, h⟩ := zgd_inv h
  refine zblq Hy.1 Hy.2.1 [(.aload 0, 1), (.getfield 1246, 3), (.iload 1, 1), (.iaload, 1)] (S' := (6, [(0, .inr (.inr (some (12, 0)))), (1, .inl x1), (2, .inl x2)], [.inl (rg M 1346 0 (nx x1))], zfR M)) (b := zin x1 10 && true) (by decide +kernel) rfl hg1 ?_
  refine zif_le Hy.1 (off := 42) (tgt := 48) (by decide +kernel) (by decide) (fun hb8 => ?_) (fun hb8 => ?_)
  · replace h := zite_t h hb8
    refine zblq Hy.1 Hy.2.1 [(.iconst 0, 1)] (S' := (49, [(0, .inr (.inr (some (12, 0)))), (1, .inl x1), (2, .inl x2)], [.inl (0 : Int32)], zfR M)) (b := true) (by decide +kernel) rfl rfl ?_
    cases h
    exact zret_z Hy.1 Hy.2.2 (by decide) hE (by decide +kernel)
  · replace h := zite_f h hb8
    obtain ⟨hg2, h⟩ := zgd_inv h
    refine zblq Hy.1 Hy.2.1 [(.aload 0, 1), (.getfield 1202, 3), (.iload 2, 1), (.iaload, 1)] (S' := (15, [(0, .inr (.inr (some (12, 0)))), (1, .inl x1), (2, .inl x2)], [.inl (rg M 1302 0 (nx x2))], zfR M)) (b := zin x2 10 && true) (by decide +kernel) rfl hg2 ?_
    refine zif_le Hy.1 (off := 33) (tgt := 48) (by decide +kernel) (by decide) (fun hb7 => ?_) (fun hb7 => ?_)
    · replace h := zite_t h hb7
      refine zblq Hy.1 Hy.2.1 [(.iconst 0, 1)] (S' := (49, [(0, .inr (.inr (some (12, 0)))), (1, .inl x1), (2, .inl x2)], [.inl (0 : Int32)], zfR M)) (b := true) (by decide +kernel) rfl rfl ?_
      cases h
      exact zret_z Hy.1 Hy.2.2 (by decide) hE (by decide +kernel)
    · replace h := zite_f h hb7
      obtain ⟨hg3, h⟩ := zgd_inv h
      refine zblq Hy.1 Hy.2.1 [(.aload 0, 1), (.getfield 1246, 3), (.iload 2, 1), (.iaload, 1), (.aload 0, 1), (.getfield 1246, 3), (.iload 1, 1), (.iaload, 1), (.iconst 1, 1), (.isub, 1)] (S' := (32, [(0, .inr (.inr (some (12, 0)))), (1, .inl x1), (2, .inl x2)], [.inl ((rg M 1346 0 (nx x1)) - (1 : Int32)), .inl (rg M 1346 0 (nx x2))], zfR M)) (b := zin x2 10 && (zin x1 10 && true)) (by decide +kernel) rfl hg3 ?_
      refine zic_ne Hy.1 (off := 16) (tgt := 48) (by decide +kernel) (by decide) (fun hb6 => ?_) (fun hb6 => ?_)
      · replace h := zite_f h hb6
        refine zblq Hy.1 Hy.2.1 [(.iconst 0, 1)] (S' := (49, [(0, .inr (.inr (some (12, 0)))), (1, .inl x1), (2, .inl x2)], [.inl (0 : Int32)], zfR M)) (b := true) (by decide +kernel) rfl rfl ?_
        cases h
        exact zret_z Hy.1 Hy.2.2 (by decide) hE (by decide +kernel)
      · replace h := zite_t h hb6
        refine zblq Hy.1 Hy.2.1 [(.aload 0, 1), (.iload 2, 1), (.iload 1, 1)] (S' := (38, [(0, .inr (.inr (some (12, 0)))), (1, .inl x1), (2, .inl x2)], [.inl x1, .inl x2, .inr (.inr (some (12, 0)))], zfR M)) (b := true) (by decide +kernel) rfl rfl ?_
        obtain ⟨r4, M4, hc4, h⟩ := zbd_inv h
        refine zcallV Hy.1 (as := [.inl x2, .inl x1]) (st := []) (m12_areMates_met (zOK_G Hy.1) Hy.2.1 hc4) cw12_197 m12_areMates_in m12_areMates_se (by decide) (zhlv Hy.2.1 rfl) rfl (zroom Hy.2.2 ⟨by decide, by decide⟩) rfl (by decide +kernel) ⟨Nat.zero_le _, Nat.zero_le _⟩ ?_
        refine zif_eq Hy.1 (off := 7) (tgt := 48) (by decide +kernel) (by decide) (fun hb5 => ?_) (fun hb5 => ?_)
        · replace h := zite_t h hb5
          refine zblq Hy.1 Hy.2.1 [(.iconst 0, 1)] (S' := (49, [(0, .inr (.inr (some (12, 0)))), (1, .inl x1), (2, .inl x2)], [.inl (0 : Int32)], zfR M4)) (b := true) (by decide +kernel) rfl rfl ?_
          cases h
          exact zret_z Hy.1 Hy.2.2 (by decide) hE (by decide +kernel)
        · replace h := zite_f h hb5
          refine zblq Hy.1 Hy.2.1 [(.iconst 1, 1), (.ldc 49, 3)] (S' := (49, [(0, .inr (.inr (some (12, 0)))), (1, .inl x1), (2, .inl x2)], [.inl (1 : Int32)], zfR M4)) (b := true) (by decide +kernel) rfl rfl ?_
          cases h
          exact zret_z Hy.1 Hy.2.2 (by decide) hE (by decide +kernel)
theorem m12_mayLead_met {l : Launch} {G : zG} (hG : zGok G) (hcn : zgcn G = zcR) {x1 : Int32} {x2 : Int32} {M : rM} {r : Int32} {M' : rM} (h : m12_mayLead x1 x2 M = some (r, M')) : zMet l G yX12_mayLead cX12_mayLead 3 (some .boolean) 2 43 [.inr (.inr (some (12, 0))), .inl x1, .inl x2] (zfR M) (some (.inl r)) (zfR M') :=
  zMet_of hG tbX12_ok rfl (by decide +kernel) (Nat.le_of_ble_eq_true rfl) (fun X _ Z hA hE => m12_mayLead_ok ⟨Z, hcn, hA⟩ hE x1 x2 M h)
abbrev q12_leastLife : ByteArray × Nat × String × zT := (cX12_leastLife, 5, RX12, tbX12)
def m12_leastLife_109 (k4 : Int32 → Int32 → rM → Option (Int32 × rM)) (x1 : Int32) (x2 : Int32) (M : rM) : Option (Int32 × rM) := k4 x1 (x2 + (1 : Int32)) M
theorem m12_leastLife_109_ok {X : zX} {G : zG} (Hy : zHy X G q12_leastLife zcR 0 0 (some .int)) {r : Int32} {M' : rM} (hE : zEnd X G (some (.inl r)) (zfR M')) {k4 : Int32 → Int32 → rM → Option (Int32 × rM)} (hk4 : ∀ (x1 : Int32) (x2 : Int32) (M : rM), k4 x1 x2 M = some (r, M') → zGo (X, q12_leastLife, G) 0 0 (4, [(0, .inr (.inr (some (12, 0)))), (1, .inl x1), (2, .inl x2)], [], zfR M)) (x1 : Int32) (x2 : Int32) (M : rM) (h : m12_leastLife_109 k4 x1 x2 M = some (r, M')) : zGo (X, q12_leastLife, G) 0 0 (109, [(0, .inr (.inr (some (12, 0)))), (1, .inl x1), (2, .inl x2)], [], zfR M) := by
  unfold m12_leastLife_109 at h
  refine zblq Hy.1 Hy.2.1 [(.iinc 2 1, 3), (.ldc 4, 3)] (S' := (4, [(0, .inr (.inr (some (12, 0)))), (1, .inl x1), (2, .inl (x2 + (1 : Int32)))], [], zfR M)) (b := true) (by decide +kernel) rfl rfl ?_
  refine zGo_keep [0, 1, 2] rfl ?_
  exact hk4 x1 (x2 + (1 : Int32)) M h
def m12_leastLife_108 (k4 : Int32 → Int32 → rM → Option (Int32 × rM)) (x2 : Int32) (t0 : Int32) (M : rM) : Option (Int32 × rM) := m12_leastLife_109 k4 t0 x2 M
theorem m12_leastLife_108_ok {X : zX} {G : zG} (Hy : zHy X G q12_leastLife zcR 0 0 (some .int)) {r : Int32} {M' : rM} (hE : zEnd X G (some (.inl r)) (zfR M')) {k4 : Int32 → Int32 → rM → Option (Int32 × rM)} (hk4 : ∀ (x1 : Int32) (x2 : Int32) (M : rM), k4 x1 x2 M = some (r, M') → zGo (X, q12_leastLife, G) 0 0 (4, [(0, .inr (.inr (some (12, 0)))), (1, .inl x1), (2, .inl x2)], [], zfR M)) (x2 : Int32) (t0 : Int32) (M : rM) (h : m12_leastLife_108 k4 x2 t0 M = some (r, M')) : zGo (X, q12_leastLife, G) 0 0 (108, [(0, .inr (.inr (some (12, 0)))), (2, .inl x2)], [.inl t0], zfR M) := by
  unfold m12_leastLife_108 at h
  refine zblq Hy.1 Hy.2.1 [(.istore 1, 1)] (S' := (109, [(0, .inr (.inr (some (12, 0)))), (1, .inl t0), (2, .inl x2)], [], zfR M)) (b := true) (by decide +kernel) rfl rfl ?_
  refine zGo_keep [0, 1, 2] rfl ?_
  exact m12_leastLife_109_ok Hy hE hk4 t0 x2 M h
def m12_leastLife_87 (k4 : Int32 → Int32 → rM → Option (Int32 × rM)) (x1 : Int32) (x2 : Int32) (t1 : Int32) (t2 : Int32) (M : rM) : Option (Int32 × rM) := zgd (zin (t1 + t2) 200 && true) ((if x1 = (-1 : Int32) then m12_leastLife_108 k4 x2 (rg M 1350 0 (nx (t1 + t2))) M else (if x1 ≤ (rg M 1350 0 (nx (t1 + t2))) then m12_leastLife_108 k4 x2 x1 M else m12_leastLife_108 k4 x2 (rg M 1350 0 (nx (t1 + t2))) M)))
theorem m12_leastLife_87_ok {X : zX} {G : zG} (Hy : zHy X G q12_leastLife zcR 0 0 (some .int)) {r : Int32} {M' : rM} (hE : zEnd X G (some (.inl r)) (zfR M')) {k4 : Int32 → Int32 → rM → Option (Int32 × rM)} (hk4 : ∀ (x1 : Int32) (x2 : Int32) (M : rM), k4 x1 x2 M = some (r, M') → zGo (X, q12_leastLife, G) 0 0 (4, [(0, .inr (.inr (some (12, 0)))), (1, .inl x1), (2, .inl x2)], [], zfR M)) (x1 : Int32) (x2 : Int32) (t1 : Int32) (t2 : Int32) (M : rM) (h : m12_leastLife_87 k4 x1 x2 t1 t2 M = some (r, M')) : zGo (X, q12_leastLife, G) 0 0 (87, [(0, .inr (.inr (some (12, 0)))), (1, .inl x1), (2, .inl x2)], [.inl t2, .inl t1, .inr (.inr (some (1350, 0)))], zfR M) := by
  unfold m12_leastLife_87 at h
  obtain ⟨hg3, h⟩ := zgd_inv h
  refine zblq Hy.1 Hy.2.1 [(.iadd, 1), (.iaload, 1), (.istore 4, 2), (.iload 1, 1), (.iconst (-1), 1)] (S' := (93, [(0, .inr (.inr (some (12, 0)))), (1, .inl x1), (2, .inl x2), (4, .inl (rg M 1350 0 (nx (t1 + t2))))], [.inl (-1 : Int32), .inl x1], zfR M)) (b := zin (t1 + t2) 200 && true) (by decide +kernel) rfl hg3 ?_
  refine zic_eq Hy.1 (off := 9) (tgt := 102) (by decide +kernel) (by decide) (fun hb5 => ?_) (fun hb5 => ?_)
  · replace h := zite_t h hb5
    refine zblq Hy.1 Hy.2.1 [(.iload 4, 2), (.ldc 108, 3)] (S' := (108, [(0, .inr (.inr (some (12, 0)))), (1, .inl x1), (2, .inl x2), (4, .inl (rg M 1350 0 (nx (t1 + t2))))], [.inl (rg M 1350 0 (nx (t1 + t2)))], zfR M)) (b := true) (by decide +kernel) rfl rfl ?_
    refine zGo_keep [0, 2] rfl ?_
    exact m12_leastLife_108_ok Hy hE hk4 x2 (rg M 1350 0 (nx (t1 + t2))) M h
  · replace h := zite_f h hb5
    refine zblq Hy.1 Hy.2.1 [(.iload 4, 2), (.iload 1, 1)] (S' := (99, [(0, .inr (.inr (some (12, 0)))), (1, .inl x1), (2, .inl x2), (4, .inl (rg M 1350 0 (nx (t1 + t2))))], [.inl x1, .inl (rg M 1350 0 (nx (t1 + t2)))], zfR M)) (b := true) (by decide +kernel) rfl rfl ?_
    refine zic_ge Hy.1 (off := 8) (tgt := 107) (by decide +kernel) (by decide) (fun hb4 => ?_) (fun hb4 => ?_)
    · replace h := zite_t h hb4
      refine zblq Hy.1 Hy.2.1 [(.iload 1, 1)] (S' := (108, [(0, .inr (.inr (some (12, 0)))), (1, .inl x1), (2, .inl x2), (4, .inl (rg M 1350 0 (nx (t1 + t2))))], [.inl x1], zfR M)) (b := true) (by decide +kernel) rfl rfl ?_
      refine zGo_keep [0, 2] rfl ?_
      exact m12_leastLife_108_ok Hy hE hk4 x2 x1 M h
    · replace h := zite_f h hb4
      refine zblq Hy.1 Hy.2.1 [(.iload 4, 2), (.ldc 108, 3)] (S' := (108, [(0, .inr (.inr (some (12, 0)))), (1, .inl x1), (2, .inl x2), (4, .inl (rg M 1350 0 (nx (t1 + t2))))], [.inl (rg M 1350 0 (nx (t1 + t2)))], zfR M)) (b := true) (by decide +kernel) rfl rfl ?_
      refine zGo_keep [0, 2] rfl ?_
      exact m12_leastLife_108_ok Hy hE hk4 x2 (rg M 1350 0 (nx (t1 + t2))) M h
def m12_leastLife_52 (k4 : Int32 → Int32 → rM → Option (Int32 × rM)) (k26 : Int32 → Int32 → Int32 → Int32 → rM → Option (Int32 × rM)) (x1 : Int32) (x2 : Int32) (x4 : Int32) (t0 : Int32) (t1 : Int32) (M : rM) : Option (Int32 × rM) := k26 x1 x2 (t0 + t1) (x4 + (1 : Int32)) M
theorem m12_leastLife_52_ok {X : zX} {G : zG} (Hy : zHy X G q12_leastLife zcR 0 0 (some .int)) {r : Int32} {M' : rM} (hE : zEnd X G (some (.inl r)) (zfR M')) {k4 : Int32 → Int32 → rM → Option (Int32 × rM)} (hk4 : ∀ (x1 : Int32) (x2 : Int32) (M : rM), k4 x1 x2 M = some (r, M') → zGo (X, q12_leastLife, G) 0 0 (4, [(0, .inr (.inr (some (12, 0)))), (1, .inl x1), (2, .inl x2)], [], zfR M)) {k26 : Int32 → Int32 → Int32 → Int32 → rM → Option (Int32 × rM)} (hk26 : ∀ (x1 : Int32) (x2 : Int32) (x3 : Int32) (x4 : Int32) (M : rM), k26 x1 x2 x3 x4 M = some (r, M') → zGo (X, q12_leastLife, G) 0 0 (26, [(0, .inr (.inr (some (12, 0)))), (1, .inl x1), (2, .inl x2), (3, .inl x3), (4, .inl x4)], [], zfR M)) (x1 : Int32) (x2 : Int32) (x4 : Int32) (t0 : Int32) (t1 : Int32) (M : rM) (h : m12_leastLife_52 k4 k26 x1 x2 x4 t0 t1 M = some (r, M')) : zGo (X, q12_leastLife, G) 0 0 (52, [(0, .inr (.inr (some (12, 0)))), (1, .inl x1), (2, .inl x2), (4, .inl x4)], [.inl t1, .inl t0], zfR M) := by
  unfold m12_leastLife_52 at h
  refine zblq Hy.1 Hy.2.1 [(.iadd, 1), (.istore 3, 1), (.iinc 4 1, 3), (.ldc 26, 3)] (S' := (26, [(0, .inr (.inr (some (12, 0)))), (1, .inl x1), (2, .inl x2), (3, .inl (t0 + t1)), (4, .inl (x4 + (1 : Int32)))], [], zfR M)) (b := true) (by decide +kernel) rfl rfl ?_
  refine zGo_keep [0, 1, 2, 3, 4] rfl ?_
  exact hk26 x1 x2 (t0 + t1) (x4 + (1 : Int32)) M h
def m12_leastLife_26 (k4 : Int32 → Int32 → rM → Option (Int32 × rM)) : Nat → Int32 → Int32 → Int32 → Int32 → rM → Option (Int32 × rM)
  | 0, _, _, _, _, _ => none
  | n + 1, x1, x2, x3, x4, M => (if (rg M 12 0 0) ≤ x4 then zgd (zin x2 10 && true) ((if (rg M 1347 0 (nx x2)) = (-1 : Int32) then m12_leastLife_87 k4 x1 x2 (((20 : Int32) * x2) + ((2 : Int32) * x3)) (0 : Int32) M else m12_leastLife_87 k4 x1 x2 (((20 : Int32) * x2) + ((2 : Int32) * x3)) (1 : Int32) M)) else zgd (zin x4 10 && true) ((if (rg M 1347 0 (nx x4)) = x2 then m12_leastLife_52 k4 (m12_leastLife_26 k4 n) x1 x2 x4 x3 (1 : Int32) M else m12_leastLife_52 k4 (m12_leastLife_26 k4 n) x1 x2 x4 x3 (0 : Int32) M)))
theorem m12_leastLife_26_ok {X : zX} {G : zG} (Hy : zHy X G q12_leastLife zcR 0 0 (some .int)) {r : Int32} {M' : rM} (hE : zEnd X G (some (.inl r)) (zfR M')) {k4 : Int32 → Int32 → rM → Option (Int32 × rM)} (hk4 : ∀ (x1 : Int32) (x2 : Int32) (M : rM), k4 x1 x2 M = some (r, M') → zGo (X, q12_leastLife, G) 0 0 (4, [(0, .inr (.inr (some (12, 0)))), (1, .inl x1), (2, .inl x2)], [], zfR M)) : ∀ (n : Nat) (x1 : Int32) (x2 : Int32) (x3 : Int32) (x4 : Int32) (M : rM), m12_leastLife_26 k4 n x1 x2 x3 x4 M = some (r, M') → zGo (X, q12_leastLife, G) 0 0 (26, [(0, .inr (.inr (some (12, 0)))), (1, .inl x1), (2, .inl x2), (3, .inl x3), (4, .inl x4)], [], zfR M) := by
  intro n
  induction n with
  | zero => intro x1 x2 x3 x4 M h; cases h
  | succ n ih =>
    intro x1 x2 x3 x4 M h
    unfold m12_leastLife_26 at h
    refine zblq Hy.1 Hy.2.1 [(.iload 4, 2), (.aload 0, 1), (.multianewarray 12 0, 3)] (S' := (32, [(0, .inr (.inr (some (12, 0)))), (1, .inl x1), (2, .inl x2), (3, .inl x3), (4, .inl x4)], [.inl (rg M 12 0 0), .inl x4], zfR M)) (b := true) (by decide +kernel) rfl rfl ?_
    refine zic_ge Hy.1 (off := 28) (tgt := 60) (by decide +kernel) (by decide) (fun hb9 => ?_) (fun hb9 => ?_)
    · replace h := zite_t h hb9
      obtain ⟨hg2, h⟩ := zgd_inv h
      refine zblq Hy.1 Hy.2.1 [(.aload 0, 1), (.getfield 1250, 3), (.iconst 20, 2), (.iload 2, 1), (.imul, 1), (.iconst 2, 1), (.iload 3, 1), (.imul, 1), (.iadd, 1), (.aload 0, 1), (.getfield 1247, 3), (.iload 2, 1), (.iaload, 1), (.iconst (-1), 1)] (S' := (79, [(0, .inr (.inr (some (12, 0)))), (1, .inl x1), (2, .inl x2), (3, .inl x3), (4, .inl x4)], [.inl (-1 : Int32), .inl (rg M 1347 0 (nx x2)), .inl (((20 : Int32) * x2) + ((2 : Int32) * x3)), .inr (.inr (some (1350, 0)))], zfR M)) (b := zin x2 10 && true) (by decide +kernel) rfl hg2 ?_
      refine zic_ne Hy.1 (off := 7) (tgt := 86) (by decide +kernel) (by decide) (fun hb6 => ?_) (fun hb6 => ?_)
      · replace h := zite_f h hb6
        refine zblq Hy.1 Hy.2.1 [(.iconst 1, 1)] (S' := (87, [(0, .inr (.inr (some (12, 0)))), (1, .inl x1), (2, .inl x2), (3, .inl x3), (4, .inl x4)], [.inl (1 : Int32), .inl (((20 : Int32) * x2) + ((2 : Int32) * x3)), .inr (.inr (some (1350, 0)))], zfR M)) (b := true) (by decide +kernel) rfl rfl ?_
        refine zGo_keep [0, 1, 2] rfl ?_
        exact m12_leastLife_87_ok Hy hE hk4 x1 x2 (((20 : Int32) * x2) + ((2 : Int32) * x3)) (1 : Int32) M h
      · replace h := zite_t h hb6
        refine zblq Hy.1 Hy.2.1 [(.iconst 0, 1), (.ldc 87, 3)] (S' := (87, [(0, .inr (.inr (some (12, 0)))), (1, .inl x1), (2, .inl x2), (3, .inl x3), (4, .inl x4)], [.inl (0 : Int32), .inl (((20 : Int32) * x2) + ((2 : Int32) * x3)), .inr (.inr (some (1350, 0)))], zfR M)) (b := true) (by decide +kernel) rfl rfl ?_
        refine zGo_keep [0, 1, 2] rfl ?_
        exact m12_leastLife_87_ok Hy hE hk4 x1 x2 (((20 : Int32) * x2) + ((2 : Int32) * x3)) (0 : Int32) M h
    · replace h := zite_f h hb9
      obtain ⟨hg7, h⟩ := zgd_inv h
      refine zblq Hy.1 Hy.2.1 [(.iload 3, 1), (.aload 0, 1), (.getfield 1247, 3), (.iload 4, 2), (.iaload, 1), (.iload 2, 1)] (S' := (44, [(0, .inr (.inr (some (12, 0)))), (1, .inl x1), (2, .inl x2), (3, .inl x3), (4, .inl x4)], [.inl x2, .inl (rg M 1347 0 (nx x4)), .inl x3], zfR M)) (b := zin x4 10 && true) (by decide +kernel) rfl hg7 ?_
      refine zic_ne Hy.1 (off := 7) (tgt := 51) (by decide +kernel) (by decide) (fun hb8 => ?_) (fun hb8 => ?_)
      · replace h := zite_f h hb8
        refine zblq Hy.1 Hy.2.1 [(.iconst 0, 1)] (S' := (52, [(0, .inr (.inr (some (12, 0)))), (1, .inl x1), (2, .inl x2), (3, .inl x3), (4, .inl x4)], [.inl (0 : Int32), .inl x3], zfR M)) (b := true) (by decide +kernel) rfl rfl ?_
        refine zGo_keep [0, 1, 2, 4] rfl ?_
        exact m12_leastLife_52_ok Hy hE hk4 ih x1 x2 x4 x3 (0 : Int32) M h
      · replace h := zite_t h hb8
        refine zblq Hy.1 Hy.2.1 [(.iconst 1, 1), (.ldc 52, 3)] (S' := (52, [(0, .inr (.inr (some (12, 0)))), (1, .inl x1), (2, .inl x2), (3, .inl x3), (4, .inl x4)], [.inl (1 : Int32), .inl x3], zfR M)) (b := true) (by decide +kernel) rfl rfl ?_
        refine zGo_keep [0, 1, 2, 4] rfl ?_
        exact m12_leastLife_52_ok Hy hE hk4 ih x1 x2 x4 x3 (1 : Int32) M h
def m12_leastLife_4 : Nat → Int32 → Int32 → rM → Option (Int32 × rM)
  | 0, _, _, _ => none
  | n + 1, x1, x2, M => (if (rg M 12 0 0) ≤ x2 then some (x1, M) else zgd (zin x2 10 && true) ((if (rg M 1302 0 (nx x2)) ≤ 0 then m12_leastLife_109 (m12_leastLife_4 n) x1 x2 M else m12_leastLife_26 (m12_leastLife_4 n) zfu x1 x2 (0 : Int32) (0 : Int32) M)))
theorem m12_leastLife_4_ok {X : zX} {G : zG} (Hy : zHy X G q12_leastLife zcR 0 0 (some .int)) {r : Int32} {M' : rM} (hE : zEnd X G (some (.inl r)) (zfR M')) : ∀ (n : Nat) (x1 : Int32) (x2 : Int32) (M : rM), m12_leastLife_4 n x1 x2 M = some (r, M') → zGo (X, q12_leastLife, G) 0 0 (4, [(0, .inr (.inr (some (12, 0)))), (1, .inl x1), (2, .inl x2)], [], zfR M) := by
  intro n
  induction n with
  | zero => intro x1 x2 M h; cases h
  | succ n ih =>
    intro x1 x2 M h
    unfold m12_leastLife_4 at h
    refine zblq Hy.1 Hy.2.1 [(.iload 2, 1), (.aload 0, 1), (.multianewarray 12 0, 3)] (S' := (9, [(0, .inr (.inr (some (12, 0)))), (1, .inl x1), (2, .inl x2)], [.inl (rg M 12 0 0), .inl x2], zfR M)) (b := true) (by decide +kernel) rfl rfl ?_
    refine zic_ge Hy.1 (off := 106) (tgt := 115) (by decide +kernel) (by decide) (fun hb11 => ?_) (fun hb11 => ?_)
    · replace h := zite_t h hb11
      refine zblq Hy.1 Hy.2.1 [(.iload 1, 1)] (S' := (116, [(0, .inr (.inr (some (12, 0)))), (1, .inl x1), (2, .inl x2)], [.inl x1], zfR M)) (b := true) (by decide +kernel) rfl rfl ?_
      cases h
      exact zret_i Hy.1 Hy.2.2 hE (by decide +kernel)
    · replace h := zite_f h hb11
      obtain ⟨hg1, h⟩ := zgd_inv h
      refine zblq Hy.1 Hy.2.1 [(.aload 0, 1), (.getfield 1202, 3), (.iload 2, 1), (.iaload, 1)] (S' := (18, [(0, .inr (.inr (some (12, 0)))), (1, .inl x1), (2, .inl x2)], [.inl (rg M 1302 0 (nx x2))], zfR M)) (b := zin x2 10 && true) (by decide +kernel) rfl hg1 ?_
      refine zif_le Hy.1 (off := 91) (tgt := 109) (by decide +kernel) (by decide) (fun hb10 => ?_) (fun hb10 => ?_)
      · replace h := zite_t h hb10
        refine zGo_keep [0, 1, 2] rfl ?_
        exact m12_leastLife_109_ok Hy hE ih x1 x2 M h
      · replace h := zite_f h hb10
        refine zblq Hy.1 Hy.2.1 [(.iconst 0, 1), (.istore 3, 1), (.iconst 0, 1), (.istore 4, 2)] (S' := (26, [(0, .inr (.inr (some (12, 0)))), (1, .inl x1), (2, .inl x2), (3, .inl (0 : Int32)), (4, .inl (0 : Int32))], [], zfR M)) (b := true) (by decide +kernel) rfl rfl ?_
        refine zGo_keep [0, 1, 2, 3, 4] rfl ?_
        exact m12_leastLife_26_ok Hy hE ih zfu x1 x2 (0 : Int32) (0 : Int32) M h
def m12_leastLife  (M : rM) : Option (Int32 × rM) := m12_leastLife_4 zfu (-1 : Int32) (0 : Int32) M
theorem m12_leastLife_ok {X : zX} {G : zG} (Hy : zHy X G q12_leastLife zcR 0 0 (some .int)) {r : Int32} {M' : rM} (hE : zEnd X G (some (.inl r)) (zfR M'))  (M : rM) (h : m12_leastLife M = some (r, M')) : zGo (X, q12_leastLife, G) 0 0 (0, [(0, .inr (.inr (some (12, 0))))], [], zfR M) := by
  unfold m12_leastLife at h
  refine zblq Hy.1 Hy.2.1 [(.iconst (-1), 1), (.istore 1, 1), (.iconst 0, 1), (.istore 2, 1)] (S' := (4, [(0, .inr (.inr (some (12, 0)))), (1, .inl (-1 : Int32)), (2, .inl (0 : Int32))], [], zfR M)) (b := true) (by decide +kernel) rfl rfl ?_
  refine zGo_keep [0, 1, 2] rfl ?_
  exact m12_leastLife_4_ok Hy hE zfu (-1 : Int32) (0 : Int32) M h
theorem m12_leastLife_met {l : Launch} {G : zG} (hG : zGok G) (hcn : zgcn G = zcR)  {M : rM} {r : Int32} {M' : rM} (h : m12_leastLife M = some (r, M')) : zMet l G yX12_leastLife cX12_leastLife 5 (some .int) 0 0 [.inr (.inr (some (12, 0)))] (zfR M) (some (.inl r)) (zfR M') :=
  zMet_of hG tbX12_ok rfl (by decide +kernel) (Nat.le_of_ble_eq_true rfl) (fun X _ Z hA hE => m12_leastLife_ok ⟨Z, hcn, hA⟩ hE M h)
abbrev q12_firstFor : ByteArray × Nat × String × zT := (cX12_firstFor, 3, RX12, tbX12)
def m12_firstFor_25 (x2 : Int32) (M : rM) : Option (Int32 × rM) := (if (rg M 12 0 0) ≤ x2 then some ((-1 : Int32), M) else some (x2, M))
theorem m12_firstFor_25_ok {X : zX} {G : zG} (Hy : zHy X G q12_firstFor zcR 3 65 (some .int)) {r : Int32} {M' : rM} (hE : zEnd X G (some (.inl r)) (zfR M')) (x2 : Int32) (M : rM) (h : m12_firstFor_25 x2 M = some (r, M')) : zGo (X, q12_firstFor, G) 0 0 (25, [(0, .inr (.inr (some (12, 0)))), (2, .inl x2)], [], zfR M) := by
  unfold m12_firstFor_25 at h
  refine zblq Hy.1 Hy.2.1 [(.iload 2, 1), (.aload 0, 1), (.multianewarray 12 0, 3)] (S' := (30, [(0, .inr (.inr (some (12, 0)))), (2, .inl x2)], [.inl (rg M 12 0 0), .inl x2], zfR M)) (b := true) (by decide +kernel) rfl rfl ?_
  refine zic_ge Hy.1 (off := 7) (tgt := 37) (by decide +kernel) (by decide) (fun hb1 => ?_) (fun hb1 => ?_)
  · replace h := zite_t h hb1
    refine zblq Hy.1 Hy.2.1 [(.iconst (-1), 1)] (S' := (38, [(0, .inr (.inr (some (12, 0)))), (2, .inl x2)], [.inl (-1 : Int32)], zfR M)) (b := true) (by decide +kernel) rfl rfl ?_
    cases h
    exact zret_i Hy.1 Hy.2.2 hE (by decide +kernel)
  · replace h := zite_f h hb1
    refine zblq Hy.1 Hy.2.1 [(.iload 2, 1), (.ldc 38, 3)] (S' := (38, [(0, .inr (.inr (some (12, 0)))), (2, .inl x2)], [.inl x2], zfR M)) (b := true) (by decide +kernel) rfl rfl ?_
    cases h
    exact zret_i Hy.1 Hy.2.2 hE (by decide +kernel)
def m12_firstFor_2 : Nat → Int32 → Int32 → rM → Option (Int32 × rM)
  | 0, _, _, _ => none
  | n + 1, x1, x2, M => (if (rg M 12 0 0) ≤ x2 then m12_firstFor_25 x2 M else zbd (m12_mayLead x1 x2 M) (fun r2 M2 => (if r2 = 0 then (m12_firstFor_2 n) x1 (x2 + (1 : Int32)) M2 else m12_firstFor_25 x2 M2)))
theorem m12_firstFor_2_ok {X : zX} {G : zG} (Hy : zHy X G q12_firstFor zcR 3 65 (some .int)) {r : Int32} {M' : rM} (hE : zEnd X G (some (.inl r)) (zfR M')) : ∀ (n : Nat) (x1 : Int32) (x2 : Int32) (M : rM), m12_firstFor_2 n x1 x2 M = some (r, M') → zGo (X, q12_firstFor, G) 0 0 (2, [(0, .inr (.inr (some (12, 0)))), (1, .inl x1), (2, .inl x2)], [], zfR M) := by
  intro n
  induction n with
  | zero => intro x1 x2 M h; cases h
  | succ n ih =>
    intro x1 x2 M h
    unfold m12_firstFor_2 at h
    refine zblq Hy.1 Hy.2.1 [(.iload 2, 1), (.aload 0, 1), (.multianewarray 12 0, 3)] (S' := (7, [(0, .inr (.inr (some (12, 0)))), (1, .inl x1), (2, .inl x2)], [.inl (rg M 12 0 0), .inl x2], zfR M)) (b := true) (by decide +kernel) rfl rfl ?_
    refine zic_ge Hy.1 (off := 18) (tgt := 25) (by decide +kernel) (by decide) (fun hb4 => ?_) (fun hb4 => ?_)
    · replace h := zite_t h hb4
      refine zGo_keep [0, 2] rfl ?_
      exact m12_firstFor_25_ok Hy hE x2 M h
    · replace h := zite_f h hb4
      refine zblq Hy.1 Hy.2.1 [(.aload 0, 1), (.iload 1, 1), (.iload 2, 1)] (S' := (13, [(0, .inr (.inr (some (12, 0)))), (1, .inl x1), (2, .inl x2)], [.inl x2, .inl x1, .inr (.inr (some (12, 0)))], zfR M)) (b := true) (by decide +kernel) rfl rfl ?_
      obtain ⟨r2, M2, hc2, h⟩ := zbd_inv h
      refine zcallV Hy.1 (as := [.inl x1, .inl x2]) (st := []) (m12_mayLead_met (zOK_G Hy.1) Hy.2.1 hc2) cw12_359 m12_mayLead_in m12_mayLead_se (by decide) (zhlv Hy.2.1 rfl) rfl (zroom Hy.2.2 ⟨by decide, by decide⟩) rfl (by decide +kernel) ⟨Nat.zero_le _, Nat.zero_le _⟩ ?_
      refine zif_ne Hy.1 (off := 9) (tgt := 25) (by decide +kernel) (by decide) (fun hb3 => ?_) (fun hb3 => ?_)
      · replace h := zite_f h hb3
        refine zGo_keep [0, 2] rfl ?_
        exact m12_firstFor_25_ok Hy hE x2 M2 h
      · replace h := zite_t h hb3
        refine zblq Hy.1 Hy.2.1 [(.iinc 2 1, 3), (.ldc 2, 3)] (S' := (2, [(0, .inr (.inr (some (12, 0)))), (1, .inl x1), (2, .inl (x2 + (1 : Int32)))], [], zfR M2)) (b := true) (by decide +kernel) rfl rfl ?_
        refine zGo_keep [0, 1, 2] rfl ?_
        exact ih x1 (x2 + (1 : Int32)) M2 h
def m12_firstFor (x1 : Int32) (M : rM) : Option (Int32 × rM) := m12_firstFor_2 zfu x1 (0 : Int32) M
theorem m12_firstFor_ok {X : zX} {G : zG} (Hy : zHy X G q12_firstFor zcR 3 65 (some .int)) {r : Int32} {M' : rM} (hE : zEnd X G (some (.inl r)) (zfR M')) (x1 : Int32) (M : rM) (h : m12_firstFor x1 M = some (r, M')) : zGo (X, q12_firstFor, G) 0 0 (0, [(0, .inr (.inr (some (12, 0)))), (1, .inl x1)], [], zfR M) := by
  unfold m12_firstFor at h
  refine zblq Hy.1 Hy.2.1 [(.iconst 0, 1), (.istore 2, 1)] (S' := (2, [(0, .inr (.inr (some (12, 0)))), (1, .inl x1), (2, .inl (0 : Int32))], [], zfR M)) (b := true) (by decide +kernel) rfl rfl ?_
  refine zGo_keep [0, 1, 2] rfl ?_
  exact m12_firstFor_2_ok Hy hE zfu x1 (0 : Int32) M h
theorem m12_firstFor_met {l : Launch} {G : zG} (hG : zGok G) (hcn : zgcn G = zcR) {x1 : Int32} {M : rM} {r : Int32} {M' : rM} (h : m12_firstFor x1 M = some (r, M')) : zMet l G yX12_firstFor cX12_firstFor 3 (some .int) 3 65 [.inr (.inr (some (12, 0))), .inl x1] (zfR M) (some (.inl r)) (zfR M') :=
  zMet_of hG tbX12_ok rfl (by decide +kernel) (Nat.le_of_ble_eq_true rfl) (fun X _ Z hA hE => m12_firstFor_ok ⟨Z, hcn, hA⟩ hE x1 M h)
