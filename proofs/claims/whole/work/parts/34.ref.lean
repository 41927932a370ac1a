abbrev q12_write : ByteArray × Nat × String × zT := (cX12_write, 5, RX12, tbX12)
def m12_write_30 : Nat → Int64 → Int32 → Int32 → rM → Option (Int32 × rM)
  | 0, _, _, _, _ => none
  | n + 1, x1, x3, x4, M => (if x3 ≤ x4 then some (rg (rs M 12 0 28 ((rg M 12 0 28) + x3)) 12 0 28, rs M 12 0 28 ((rg M 12 0 28) + x3)) else zgd (zin ((rg M 12 0 28) + x4) 120 && true) ((m12_write_30 n) x1 x3 (x4 + (1 : Int32)) (rs M 1329 0 (nx ((rg M 12 0 28) + x4)) (Int64.toInt32 ((zshrL x1 ((8 : Int32) * x4)) &&& (255 : Int64))))))
theorem m12_write_30_ok {X : zX} {G : zG} (Hy : zHy X G q12_write zcR 1 22 (some .int)) {r : Int32} {M' : rM} (hE : zEnd X G (some (.inl r)) (zfR M')) : ∀ (n : Nat) (x1 : Int64) (x3 : Int32) (x4 : Int32) (M : rM), m12_write_30 n x1 x3 x4 M = some (r, M') → zGo (X, q12_write, G) 0 0 (30, [(0, .inr (.inr (some (12, 0)))), (1, .inr (.inl x1)), (3, .inl x3), (4, .inl x4)], [], zfR M) := by
  intro n
  induction n with
  | zero => intro x1 x3 x4 M h; cases h
  | succ n ih =>
    intro x1 x3 x4 M h
    unfold m12_write_30 at h
    refine zblq Hy.1 Hy.2.1 [(.iload 4, 2), (.iload 3, 1)] (S' := (33, [(0, .inr (.inr (some (12, 0)))), (1, .inr (.inl x1)), (3, .inl x3), (4, .inl x4)], [.inl x3, .inl x4], zfR M)) (b := true) (by decide +kernel) rfl rfl ?_
    refine zic_ge Hy.1 (off := 33) (tgt := 66) (by decide +kernel) (by decide) (fun hb3 => ?_) (fun hb3 => ?_)
    · replace h := zite_t h hb3
      refine zblq Hy.1 Hy.2.1 [(.aload 0, 1), (.dup, 1), (.multianewarray 12 28, 3), (.iload 3, 1), (.iadd, 1), (.invokeinterface 12 28, 3), (.aload 0, 1), (.multianewarray 12 28, 3)] (S' := (80, [(0, .inr (.inr (some (12, 0)))), (1, .inr (.inl x1)), (3, .inl x3), (4, .inl x4)], [.inl (rg (rs M 12 0 28 ((rg M 12 0 28) + x3)) 12 0 28)], zfR (rs M 12 0 28 ((rg M 12 0 28) + x3)))) (b := true) (by decide +kernel) rfl rfl ?_
      cases h
      exact zret_i Hy.1 Hy.2.2 hE (by decide +kernel)
    · replace h := zite_f h hb3
      obtain ⟨hg2, h⟩ := zgd_inv h
      refine zblq Hy.1 Hy.2.1 [(.aload 0, 1), (.getfield 1229, 3), (.aload 0, 1), (.multianewarray 12 28, 3), (.iload 4, 2), (.iadd, 1), (.lload 1, 1), (.iconst 8, 2), (.iload 4, 2), (.imul, 1), (.lshr, 1), (.goto_w 255, 3), (.land, 1), (.l2i, 1), (.iastore, 1), (.iinc 4 1, 3), (.ldc 30, 3)] (S' := (30, [(0, .inr (.inr (some (12, 0)))), (1, .inr (.inl x1)), (3, .inl x3), (4, .inl (x4 + (1 : Int32)))], [], zfR (rs M 1329 0 (nx ((rg M 12 0 28) + x4)) (Int64.toInt32 ((zshrL x1 ((8 : Int32) * x4)) &&& (255 : Int64)))))) (b := zin ((rg M 12 0 28) + x4) 120 && true) (by decide +kernel) rfl hg2 ?_
      refine zGo_keep [0, 1, 3, 4] rfl ?_
      exact ih x1 x3 (x4 + (1 : Int32)) (rs M 1329 0 (nx ((rg M 12 0 28) + x4)) (Int64.toInt32 ((zshrL x1 ((8 : Int32) * x4)) &&& (255 : Int64)))) h
def m12_write (x1 : Int64) (x3 : Int32) (M : rM) : Option (Int32 × rM) := zbd (m12_in x3 (1 : Int32) (8 : Int32) M) (fun r1 M1 => (if r1 = 0 then some ((-3 : Int32), M1) else (if ((rg M1 12 0 28) + x3) ≤ (120 : Int32) then m12_write_30 zfu x1 x3 (0 : Int32) M1 else some ((-5 : Int32), M1))))
theorem m12_write_ok {X : zX} {G : zG} (Hy : zHy X G q12_write zcR 1 22 (some .int)) {r : Int32} {M' : rM} (hE : zEnd X G (some (.inl r)) (zfR M')) (x1 : Int64) (x3 : Int32) (M : rM) (h : m12_write x1 x3 M = some (r, M')) : zGo (X, q12_write, G) 0 0 (0, [(0, .inr (.inr (some (12, 0)))), (1, .inr (.inl x1)), (3, .inl x3)], [], zfR M) := by
  unfold m12_write at h
  refine zblq Hy.1 Hy.2.1 [(.iload 3, 1), (.iconst 1, 1), (.iconst 8, 2)] (S' := (4, [(0, .inr (.inr (some (12, 0)))), (1, .inr (.inl x1)), (3, .inl x3)], [.inl (8 : Int32), .inl (1 : Int32), .inl x3], zfR M)) (b := true) (by decide +kernel) rfl rfl ?_
  obtain ⟨r1, M1, hc1, h⟩ := zbd_inv h
  refine zcallS Hy.1 (as := [.inl x3, .inl (1 : Int32), .inl (8 : Int32)]) (st := []) (m12_in_met (zOK_G Hy.1) Hy.2.1 hc1) cw12_171 m12_in_in rfl (zroom Hy.2.2 ⟨by decide, by decide⟩) rfl (by decide +kernel) ⟨Nat.zero_le _, Nat.zero_le _⟩ ?_
  refine zif_ne Hy.1 (off := 6) (tgt := 13) (by decide +kernel) (by decide) (fun hb5 => ?_) (fun hb5 => ?_)
  · replace h := zite_f h hb5
    refine zblq Hy.1 Hy.2.1 [(.aload 0, 1), (.multianewarray 12 28, 3), (.iload 3, 1), (.iadd, 1), (.iconst 120, 2)] (S' := (21, [(0, .inr (.inr (some (12, 0)))), (1, .inr (.inl x1)), (3, .inl x3)], [.inl (120 : Int32), .inl ((rg M1 12 0 28) + x3)], zfR M1)) (b := true) (by decide +kernel) rfl rfl ?_
    refine zic_le Hy.1 (off := 6) (tgt := 27) (by decide +kernel) (by decide) (fun hb4 => ?_) (fun hb4 => ?_)
    · replace h := zite_t h hb4
      refine zblq Hy.1 Hy.2.1 [(.iconst 0, 1), (.istore 4, 2)] (S' := (30, [(0, .inr (.inr (some (12, 0)))), (1, .inr (.inl x1)), (3, .inl x3), (4, .inl (0 : Int32))], [], zfR M1)) (b := true) (by decide +kernel) rfl rfl ?_
      refine zGo_keep [0, 1, 3, 4] rfl ?_
      exact m12_write_30_ok Hy hE zfu x1 x3 (0 : Int32) M1 h
    · replace h := zite_f h hb4
      refine zblq Hy.1 Hy.2.1 [(.iconst (-5), 2)] (S' := (26, [(0, .inr (.inr (some (12, 0)))), (1, .inr (.inl x1)), (3, .inl x3)], [.inl (-5 : Int32)], zfR M1)) (b := true) (by decide +kernel) rfl rfl ?_
      cases h
      exact zret_i Hy.1 Hy.2.2 hE (by decide +kernel)
  · replace h := zite_t h hb5
    refine zblq Hy.1 Hy.2.1 [(.iconst (-3), 2)] (S' := (12, [(0, .inr (.inr (some (12, 0)))), (1, .inr (.inl x1)), (3, .inl x3)], [.inl (-3 : Int32)], zfR M1)) (b := true) (by decide +kernel) rfl rfl ?_
    cases h
    exact zret_i Hy.1 Hy.2.2 hE (by decide +kernel)
theorem m12_write_met {l : Launch} {G : zG} (hG : zGok G) (hcn : zgcn G = zcR) {x1 : Int64} {x3 : Int32} {M : rM} {r : Int32} {M' : rM} (h : m12_write x1 x3 M = some (r, M')) : zMet l G yX12_write cX12_write 5 (some .int) 1 22 [.inr (.inr (some (12, 0))), .inr (.inl x1), .inl x3] (zfR M) (some (.inl r)) (zfR M') :=
  zMet_of hG tbX12_ok rfl (by decide +kernel) (Nat.le_of_ble_eq_true rfl) (fun X _ Z hA hE => m12_write_ok ⟨Z, hcn, hA⟩ hE x1 x3 M h)
abbrev q12_erase : ByteArray × Nat × String × zT := (cX12_erase, 2, RX12, tbX12)
def m12_erase  (M : rM) : Option (Int32 × rM) := some (rg M 12 0 28, rs M 12 0 28 (0 : Int32))
theorem m12_erase_ok {X : zX} {G : zG} (Hy : zHy X G q12_erase zcR 0 0 (some .int)) {r : Int32} {M' : rM} (hE : zEnd X G (some (.inl r)) (zfR M'))  (M : rM) (h : m12_erase M = some (r, M')) : zGo (X, q12_erase, G) 0 0 (0, [(0, .inr (.inr (some (12, 0))))], [], zfR M) := by
  unfold m12_erase at h
  refine zblq Hy.1 Hy.2.1 [(.aload 0, 1), (.multianewarray 12 28, 3), (.istore 1, 1), (.aload 0, 1), (.iconst 0, 1), (.invokeinterface 12 28, 3), (.iload 1, 1)] (S' := (11, [(0, .inr (.inr (some (12, 0)))), (1, .inl (rg M 12 0 28))], [.inl (rg M 12 0 28)], zfR (rs M 12 0 28 (0 : Int32)))) (b := true) (by decide +kernel) rfl rfl ?_
  cases h
  exact zret_i Hy.1 Hy.2.2 hE (by decide +kernel)
theorem m12_erase_met {l : Launch} {G : zG} (hG : zGok G) (hcn : zgcn G = zcR)  {M : rM} {r : Int32} {M' : rM} (h : m12_erase M = some (r, M')) : zMet l G yX12_erase cX12_erase 2 (some .int) 0 0 [.inr (.inr (some (12, 0)))] (zfR M) (some (.inl r)) (zfR M') :=
  zMet_of hG tbX12_ok rfl (by decide +kernel) (Nat.le_of_ble_eq_true rfl) (fun X _ Z hA hE => m12_erase_ok ⟨Z, hcn, hA⟩ hE M h)
abbrev q12_nextToken : ByteArray × Nat × String × zT := (cX12_nextToken, 1, RX12, tbX12)
def m12_nextToken_312 (k246 : rM → Option rM) (t1 : Int32) (M : rM) : Option rM := k246 (rs (rs (rs M 12 0 35 t1) 12 0 34 ((rg (rs M 12 0 35 t1) 12 0 34) + (1 : Int32))) 12 0 31 ((rg (rs (rs M 12 0 35 t1) 12 0 34 ((rg (rs M 12 0 35 t1) 12 0 34) + (1 : Int32))) 12 0 31) + (1 : Int32)))
theorem m12_nextToken_312_ok {X : zX} {G : zG} (Hy : zHy X G q12_nextToken zcR 1 22 (none)) {M' : rM} (hE : zEnd X G (none) (zfR M')) {k246 : rM → Option rM} (hk246 : ∀  (M : rM), k246 M = some M' → zGo (X, q12_nextToken, G) 0 0 (246, [(0, .inr (.inr (some (12, 0))))], [], zfR M)) (t1 : Int32) (M : rM) (h : m12_nextToken_312 k246 t1 M = some M') : zGo (X, q12_nextToken, G) 0 0 (312, [(0, .inr (.inr (some (12, 0))))], [.inl t1, .inr (.inr (some (12, 0)))], zfR M) := by
  unfold m12_nextToken_312 at h
  refine zblq Hy.1 Hy.2.1 [(.invokeinterface 12 35, 3), (.aload 0, 1), (.dup, 1), (.multianewarray 12 34, 3), (.iconst 1, 1), (.iadd, 1), (.invokeinterface 12 34, 3), (.aload 0, 1), (.dup, 1), (.multianewarray 12 31, 3), (.iconst 1, 1), (.iadd, 1), (.invokeinterface 12 31, 3), (.ldc 246, 3)] (S' := (246, [(0, .inr (.inr (some (12, 0))))], [], zfR (rs (rs (rs M 12 0 35 t1) 12 0 34 ((rg (rs M 12 0 35 t1) 12 0 34) + (1 : Int32))) 12 0 31 ((rg (rs (rs M 12 0 35 t1) 12 0 34 ((rg (rs M 12 0 35 t1) 12 0 34) + (1 : Int32))) 12 0 31) + (1 : Int32))))) (b := true) (by decide +kernel) rfl rfl ?_
  refine zGo_keep [0] rfl ?_
  exact hk246 (rs (rs (rs M 12 0 35 t1) 12 0 34 ((rg (rs M 12 0 35 t1) 12 0 34) + (1 : Int32))) 12 0 31 ((rg (rs (rs M 12 0 35 t1) 12 0 34 ((rg (rs M 12 0 35 t1) 12 0 34) + (1 : Int32))) 12 0 31) + (1 : Int32))) h
def m12_nextToken_246 : Nat → rM → Option rM
  | 0, _ => none
  | n + 1, M => (if (rg M 12 0 28) ≤ (rg M 12 0 31) then some M else zgd (zin (rg M 12 0 31) 120 && true) (zbd (m12_in (rg M 1329 0 (nx (rg M 12 0 31))) (48 : Int32) (57 : Int32) M) (fun r6 M6 => (if r6 = 0 then some M6 else (if (2 : Int32) ≤ (rg M6 12 0 34) then m12_nextToken_312 (m12_nextToken_246 n) (rg M6 12 0 35) M6 else zgd (zin (rg M6 12 0 31) 120 && true) (m12_nextToken_312 (m12_nextToken_246 n) ((((10 : Int32) * (rg M6 12 0 35)) + (rg M6 1329 0 (nx (rg M6 12 0 31)))) - (48 : Int32)) M6))))))
theorem m12_nextToken_246_ok {X : zX} {G : zG} (Hy : zHy X G q12_nextToken zcR 1 22 (none)) {M' : rM} (hE : zEnd X G (none) (zfR M')) : ∀ (n : Nat)  (M : rM), m12_nextToken_246 n M = some M' → zGo (X, q12_nextToken, G) 0 0 (246, [(0, .inr (.inr (some (12, 0))))], [], zfR M) := by
  intro n
  induction n with
  | zero => intro M h; cases h
  | succ n ih =>
    intro M h
    unfold m12_nextToken_246 at h
    refine zblq Hy.1 Hy.2.1 [(.aload 0, 1), (.multianewarray 12 31, 3), (.aload 0, 1), (.multianewarray 12 28, 3)] (S' := (254, [(0, .inr (.inr (some (12, 0))))], [.inl (rg M 12 0 28), .inl (rg M 12 0 31)], zfR M)) (b := true) (by decide +kernel) rfl rfl ?_
    refine zic_ge Hy.1 (off := 101) (tgt := 355) (by decide +kernel) (by decide) (fun hb10 => ?_) (fun hb10 => ?_)
    · replace h := zite_t h hb10
      cases h
      exact zret_v Hy.1 Hy.2.2 hE (by decide +kernel)
    · replace h := zite_f h hb10
      obtain ⟨hg5, h⟩ := zgd_inv h
      refine zblq Hy.1 Hy.2.1 [(.aload 0, 1), (.getfield 1229, 3), (.aload 0, 1), (.multianewarray 12 31, 3), (.iaload, 1), (.iconst 48, 2), (.iconst 57, 2)] (S' := (270, [(0, .inr (.inr (some (12, 0))))], [.inl (57 : Int32), .inl (48 : Int32), .inl (rg M 1329 0 (nx (rg M 12 0 31)))], zfR M)) (b := zin (rg M 12 0 31) 120 && true) (by decide +kernel) rfl hg5 ?_
      obtain ⟨r6, M6, hc6, h⟩ := zbd_inv h
      refine zcallS Hy.1 (as := [.inl (rg M 1329 0 (nx (rg M 12 0 31))), .inl (48 : Int32), .inl (57 : Int32)]) (st := []) (m12_in_met (zOK_G Hy.1) Hy.2.1 hc6) cw12_171 m12_in_in rfl (zroom Hy.2.2 ⟨by decide, by decide⟩) rfl (by decide +kernel) ⟨Nat.zero_le _, Nat.zero_le _⟩ ?_
      refine zif_eq Hy.1 (off := 82) (tgt := 355) (by decide +kernel) (by decide) (fun hb9 => ?_) (fun hb9 => ?_)
      · replace h := zite_t h hb9
        cases h
        exact zret_v Hy.1 Hy.2.2 hE (by decide +kernel)
      · replace h := zite_f h hb9
        refine zblq Hy.1 Hy.2.1 [(.aload 0, 1), (.aload 0, 1), (.multianewarray 12 34, 3), (.iconst 2, 1)] (S' := (282, [(0, .inr (.inr (some (12, 0))))], [.inl (2 : Int32), .inl (rg M6 12 0 34), .inr (.inr (some (12, 0)))], zfR M6)) (b := true) (by decide +kernel) rfl rfl ?_
        refine zic_ge Hy.1 (off := 26) (tgt := 308) (by decide +kernel) (by decide) (fun hb8 => ?_) (fun hb8 => ?_)
        · replace h := zite_t h hb8
          refine zblq Hy.1 Hy.2.1 [(.aload 0, 1), (.multianewarray 12 35, 3)] (S' := (312, [(0, .inr (.inr (some (12, 0))))], [.inl (rg M6 12 0 35), .inr (.inr (some (12, 0)))], zfR M6)) (b := true) (by decide +kernel) rfl rfl ?_
          refine zGo_keep [0] rfl ?_
          exact m12_nextToken_312_ok Hy hE ih (rg M6 12 0 35) M6 h
        · replace h := zite_f h hb8
          obtain ⟨hg7, h⟩ := zgd_inv h
          refine zblq Hy.1 Hy.2.1 [(.iconst 10, 2), (.aload 0, 1), (.multianewarray 12 35, 3), (.imul, 1), (.aload 0, 1), (.getfield 1229, 3), (.aload 0, 1), (.multianewarray 12 31, 3), (.iaload, 1), (.iadd, 1), (.iconst 48, 2), (.isub, 1), (.ldc 312, 3)] (S' := (312, [(0, .inr (.inr (some (12, 0))))], [.inl ((((10 : Int32) * (rg M6 12 0 35)) + (rg M6 1329 0 (nx (rg M6 12 0 31)))) - (48 : Int32)), .inr (.inr (some (12, 0)))], zfR M6)) (b := zin (rg M6 12 0 31) 120 && true) (by decide +kernel) rfl hg7 ?_
          refine zGo_keep [0] rfl ?_
          exact m12_nextToken_312_ok Hy hE ih ((((10 : Int32) * (rg M6 12 0 35)) + (rg M6 1329 0 (nx (rg M6 12 0 31)))) - (48 : Int32)) M6 h
def m12_nextToken_214 (t1 : Int64) (M : rM) : Option rM := some (rsl M 12 0 33 t1)
theorem m12_nextToken_214_ok {X : zX} {G : zG} (Hy : zHy X G q12_nextToken zcR 1 22 (none)) {M' : rM} (hE : zEnd X G (none) (zfR M')) (t1 : Int64) (M : rM) (h : m12_nextToken_214 t1 M = some M') : zGo (X, q12_nextToken, G) 0 0 (214, [], [.inr (.inl t1), .inr (.inr (some (12, 0)))], zfR M) := by
  unfold m12_nextToken_214 at h
  refine zblq Hy.1 Hy.2.1 [(.checkcast 1233, 3), (.ldc 355, 3)] (S' := (355, [], [], zfR (rsl M 12 0 33 t1))) (b := true) (by decide +kernel) rfl rfl ?_
  cases h
  exact zret_v Hy.1 Hy.2.2 hE (by decide +kernel)
def m12_nextToken_189  (M : rM) : Option rM := (if ((rg M 12 0 31) - (rg M 12 0 32)) ≤ (12 : Int32) then m12_nextToken_214 (rgl M 12 0 33) M else m12_nextToken_214 (-1 : Int64) M)
theorem m12_nextToken_189_ok {X : zX} {G : zG} (Hy : zHy X G q12_nextToken zcR 1 22 (none)) {M' : rM} (hE : zEnd X G (none) (zfR M'))  (M : rM) (h : m12_nextToken_189 M = some M') : zGo (X, q12_nextToken, G) 0 0 (189, [(0, .inr (.inr (some (12, 0))))], [], zfR M) := by
  unfold m12_nextToken_189 at h
  refine zblq Hy.1 Hy.2.1 [(.aload 0, 1), (.aload 0, 1), (.multianewarray 12 31, 3), (.aload 0, 1), (.multianewarray 12 32, 3), (.isub, 1), (.iconst 12, 2)] (S' := (201, [(0, .inr (.inr (some (12, 0))))], [.inl (12 : Int32), .inl ((rg M 12 0 31) - (rg M 12 0 32)), .inr (.inr (some (12, 0)))], zfR M)) (b := true) (by decide +kernel) rfl rfl ?_
  refine zic_le Hy.1 (off := 9) (tgt := 210) (by decide +kernel) (by decide) (fun hb12 => ?_) (fun hb12 => ?_)
  · replace h := zite_t h hb12
    refine zblq Hy.1 Hy.2.1 [(.aload 0, 1), (.anewarray 1233, 3)] (S' := (214, [(0, .inr (.inr (some (12, 0))))], [.inr (.inl (rgl M 12 0 33)), .inr (.inr (some (12, 0)))], zfR M)) (b := true) (by decide +kernel) rfl rfl ?_
    refine zGo_keep [] rfl ?_
    exact m12_nextToken_214_ok Hy hE (rgl M 12 0 33) M h
  · replace h := zite_f h hb12
    refine zblq Hy.1 Hy.2.1 [(.goto_w (-1), 3), (.ldc 214, 3)] (S' := (214, [(0, .inr (.inr (some (12, 0))))], [.inr (.inl (-1 : Int64)), .inr (.inr (some (12, 0)))], zfR M)) (b := true) (by decide +kernel) rfl rfl ?_
    refine zGo_keep [] rfl ?_
    exact m12_nextToken_214_ok Hy hE (-1 : Int64) M h
def m12_nextToken_173 (k99 : rM → Option rM) (t1 : Int64) (M : rM) : Option rM := k99 (rs (rsl M 12 0 33 t1) 12 0 31 ((rg (rsl M 12 0 33 t1) 12 0 31) + (1 : Int32)))
theorem m12_nextToken_173_ok {X : zX} {G : zG} (Hy : zHy X G q12_nextToken zcR 1 22 (none)) {M' : rM} (hE : zEnd X G (none) (zfR M')) {k99 : rM → Option rM} (hk99 : ∀  (M : rM), k99 M = some M' → zGo (X, q12_nextToken, G) 0 0 (99, [(0, .inr (.inr (some (12, 0))))], [], zfR M)) (t1 : Int64) (M : rM) (h : m12_nextToken_173 k99 t1 M = some M') : zGo (X, q12_nextToken, G) 0 0 (173, [(0, .inr (.inr (some (12, 0))))], [.inr (.inl t1), .inr (.inr (some (12, 0)))], zfR M) := by
  unfold m12_nextToken_173 at h
  refine zblq Hy.1 Hy.2.1 [(.checkcast 1233, 3), (.aload 0, 1), (.dup, 1), (.multianewarray 12 31, 3), (.iconst 1, 1), (.iadd, 1), (.invokeinterface 12 31, 3), (.ldc 99, 3)] (S' := (99, [(0, .inr (.inr (some (12, 0))))], [], zfR (rs (rsl M 12 0 33 t1) 12 0 31 ((rg (rsl M 12 0 33 t1) 12 0 31) + (1 : Int32))))) (b := true) (by decide +kernel) rfl rfl ?_
  refine zGo_keep [0] rfl ?_
  exact hk99 (rs (rsl M 12 0 33 t1) 12 0 31 ((rg (rsl M 12 0 33 t1) 12 0 31) + (1 : Int32))) h
def m12_nextToken_99 : Nat → rM → Option rM
  | 0, _ => none
  | n + 1, M => (if (rg M 12 0 28) ≤ (rg M 12 0 31) then m12_nextToken_189 M else zgd (zin (rg M 12 0 31) 120 && true) (zbd (m12_in (rg M 1329 0 (nx (rg M 12 0 31))) (97 : Int32) (122 : Int32) M) (fun r14 M14 => (if r14 = 0 then m12_nextToken_189 M14 else (if (12 : Int32) ≤ ((rg M14 12 0 31) - (rg M14 12 0 32)) then m12_nextToken_173 (m12_nextToken_99 n) (-1 : Int64) M14 else zgd (zin (rg M14 12 0 31) 120 && true) (m12_nextToken_173 (m12_nextToken_99 n) ((((27 : Int64) * (rgl M14 12 0 33)) + (Int32.toInt64 (rg M14 1329 0 (nx (rg M14 12 0 31))))) - (96 : Int64)) M14))))))
theorem m12_nextToken_99_ok {X : zX} {G : zG} (Hy : zHy X G q12_nextToken zcR 1 22 (none)) {M' : rM} (hE : zEnd X G (none) (zfR M')) : ∀ (n : Nat)  (M : rM), m12_nextToken_99 n M = some M' → zGo (X, q12_nextToken, G) 0 0 (99, [(0, .inr (.inr (some (12, 0))))], [], zfR M) := by
  intro n
  induction n with
  | zero => intro M h; cases h
  | succ n ih =>
    intro M h
    unfold m12_nextToken_99 at h
    refine zblq Hy.1 Hy.2.1 [(.aload 0, 1), (.multianewarray 12 31, 3), (.aload 0, 1), (.multianewarray 12 28, 3)] (S' := (107, [(0, .inr (.inr (some (12, 0))))], [.inl (rg M 12 0 28), .inl (rg M 12 0 31)], zfR M)) (b := true) (by decide +kernel) rfl rfl ?_
    refine zic_ge Hy.1 (off := 82) (tgt := 189) (by decide +kernel) (by decide) (fun hb18 => ?_) (fun hb18 => ?_)
    · replace h := zite_t h hb18
      refine zGo_keep [0] rfl ?_
      exact m12_nextToken_189_ok Hy hE M h
    · replace h := zite_f h hb18
      obtain ⟨hg13, h⟩ := zgd_inv h
      refine zblq Hy.1 Hy.2.1 [(.aload 0, 1), (.getfield 1229, 3), (.aload 0, 1), (.multianewarray 12 31, 3), (.iaload, 1), (.iconst 97, 2), (.iconst 122, 2)] (S' := (123, [(0, .inr (.inr (some (12, 0))))], [.inl (122 : Int32), .inl (97 : Int32), .inl (rg M 1329 0 (nx (rg M 12 0 31)))], zfR M)) (b := zin (rg M 12 0 31) 120 && true) (by decide +kernel) rfl hg13 ?_
      obtain ⟨r14, M14, hc14, h⟩ := zbd_inv h
      refine zcallS Hy.1 (as := [.inl (rg M 1329 0 (nx (rg M 12 0 31))), .inl (97 : Int32), .inl (122 : Int32)]) (st := []) (m12_in_met (zOK_G Hy.1) Hy.2.1 hc14) cw12_171 m12_in_in rfl (zroom Hy.2.2 ⟨by decide, by decide⟩) rfl (by decide +kernel) ⟨Nat.zero_le _, Nat.zero_le _⟩ ?_
      refine zif_eq Hy.1 (off := 63) (tgt := 189) (by decide +kernel) (by decide) (fun hb17 => ?_) (fun hb17 => ?_)
      · replace h := zite_t h hb17
        refine zGo_keep [0] rfl ?_
        exact m12_nextToken_189_ok Hy hE M14 h
      · replace h := zite_f h hb17
        refine zblq Hy.1 Hy.2.1 [(.aload 0, 1), (.aload 0, 1), (.multianewarray 12 31, 3), (.aload 0, 1), (.multianewarray 12 32, 3), (.isub, 1), (.iconst 12, 2)] (S' := (141, [(0, .inr (.inr (some (12, 0))))], [.inl (12 : Int32), .inl ((rg M14 12 0 31) - (rg M14 12 0 32)), .inr (.inr (some (12, 0)))], zfR M14)) (b := true) (by decide +kernel) rfl rfl ?_
        refine zic_ge Hy.1 (off := 29) (tgt := 170) (by decide +kernel) (by decide) (fun hb16 => ?_) (fun hb16 => ?_)
        · replace h := zite_t h hb16
          refine zblq Hy.1 Hy.2.1 [(.goto_w (-1), 3)] (S' := (173, [(0, .inr (.inr (some (12, 0))))], [.inr (.inl (-1 : Int64)), .inr (.inr (some (12, 0)))], zfR M14)) (b := true) (by decide +kernel) rfl rfl ?_
          refine zGo_keep [0] rfl ?_
          exact m12_nextToken_173_ok Hy hE ih (-1 : Int64) M14 h
        · replace h := zite_f h hb16
          obtain ⟨hg15, h⟩ := zgd_inv h
          refine zblq Hy.1 Hy.2.1 [(.goto_w 27, 3), (.aload 0, 1), (.anewarray 1233, 3), (.lmul, 1), (.aload 0, 1), (.getfield 1229, 3), (.aload 0, 1), (.multianewarray 12 31, 3), (.iaload, 1), (.i2l, 1), (.ladd, 1), (.goto_w 96, 3), (.lsub, 1), (.ldc 173, 3)] (S' := (173, [(0, .inr (.inr (some (12, 0))))], [.inr (.inl ((((27 : Int64) * (rgl M14 12 0 33)) + (Int32.toInt64 (rg M14 1329 0 (nx (rg M14 12 0 31))))) - (96 : Int64))), .inr (.inr (some (12, 0)))], zfR M14)) (b := zin (rg M14 12 0 31) 120 && true) (by decide +kernel) rfl hg15 ?_
          refine zGo_keep [0] rfl ?_
          exact m12_nextToken_173_ok Hy hE ih ((((27 : Int64) * (rgl M14 12 0 33)) + (Int32.toInt64 (rg M14 1329 0 (nx (rg M14 12 0 31))))) - (96 : Int64)) M14 h
def m12_nextToken_38  (M : rM) : Option rM := (if (rg (rsl (rs (rs (rs M 12 0 32 (rg M 12 0 31)) 12 0 34 (0 : Int32)) 12 0 35 (0 : Int32)) 12 0 33 (-2 : Int64)) 12 0 31) = (rg (rsl (rs (rs (rs M 12 0 32 (rg M 12 0 31)) 12 0 34 (0 : Int32)) 12 0 35 (0 : Int32)) 12 0 33 (-2 : Int64)) 12 0 28) then some (rsl (rs (rs (rs M 12 0 32 (rg M 12 0 31)) 12 0 34 (0 : Int32)) 12 0 35 (0 : Int32)) 12 0 33 (-2 : Int64)) else zgd (zin (rg (rsl (rs (rs (rs M 12 0 32 (rg M 12 0 31)) 12 0 34 (0 : Int32)) 12 0 35 (0 : Int32)) 12 0 33 (-2 : Int64)) 12 0 31) 120 && true) (zbd (m12_in (rg (rsl (rs (rs (rs M 12 0 32 (rg M 12 0 31)) 12 0 34 (0 : Int32)) 12 0 35 (0 : Int32)) 12 0 33 (-2 : Int64)) 1329 0 (nx (rg (rsl (rs (rs (rs M 12 0 32 (rg M 12 0 31)) 12 0 34 (0 : Int32)) 12 0 35 (0 : Int32)) 12 0 33 (-2 : Int64)) 12 0 31))) (97 : Int32) (122 : Int32) (rsl (rs (rs (rs M 12 0 32 (rg M 12 0 31)) 12 0 34 (0 : Int32)) 12 0 35 (0 : Int32)) 12 0 33 (-2 : Int64))) (fun r2 M2 => (if r2 = 0 then zgd (zin (rg M2 12 0 31) 120 && true) (zbd (m12_in (rg M2 1329 0 (nx (rg M2 12 0 31))) (48 : Int32) (57 : Int32) M2) (fun r4 M4 => (if r4 = 0 then some (rs (rsl M4 12 0 33 (-1 : Int64)) 12 0 31 ((rg (rsl M4 12 0 33 (-1 : Int64)) 12 0 31) + (1 : Int32))) else m12_nextToken_246 zfu (rsl M4 12 0 33 (-1 : Int64))))) else m12_nextToken_99 zfu (rsl M2 12 0 33 (0 : Int64))))))
theorem m12_nextToken_38_ok {X : zX} {G : zG} (Hy : zHy X G q12_nextToken zcR 1 22 (none)) {M' : rM} (hE : zEnd X G (none) (zfR M'))  (M : rM) (h : m12_nextToken_38 M = some M') : zGo (X, q12_nextToken, G) 0 0 (38, [(0, .inr (.inr (some (12, 0))))], [], zfR M) := by
  unfold m12_nextToken_38 at h
  refine zblq Hy.1 Hy.2.1 [(.aload 0, 1), (.aload 0, 1), (.multianewarray 12 31, 3), (.invokeinterface 12 32, 3), (.aload 0, 1), (.iconst 0, 1), (.invokeinterface 12 34, 3), (.aload 0, 1), (.iconst 0, 1), (.invokeinterface 12 35, 3), (.aload 0, 1), (.goto_w (-2), 3), (.checkcast 1233, 3), (.aload 0, 1), (.multianewarray 12 31, 3), (.aload 0, 1), (.multianewarray 12 28, 3)] (S' := (71, [(0, .inr (.inr (some (12, 0))))], [.inl (rg (rsl (rs (rs (rs M 12 0 32 (rg M 12 0 31)) 12 0 34 (0 : Int32)) 12 0 35 (0 : Int32)) 12 0 33 (-2 : Int64)) 12 0 28), .inl (rg (rsl (rs (rs (rs M 12 0 32 (rg M 12 0 31)) 12 0 34 (0 : Int32)) 12 0 35 (0 : Int32)) 12 0 33 (-2 : Int64)) 12 0 31)], zfR (rsl (rs (rs (rs M 12 0 32 (rg M 12 0 31)) 12 0 34 (0 : Int32)) 12 0 35 (0 : Int32)) 12 0 33 (-2 : Int64)))) (b := true) (by decide +kernel) rfl rfl ?_
  refine zic_ne Hy.1 (off := 4) (tgt := 75) (by decide +kernel) (by decide) (fun hb20 => ?_) (fun hb20 => ?_)
  · replace h := zite_f h hb20
    obtain ⟨hg1, h⟩ := zgd_inv h
    refine zblq Hy.1 Hy.2.1 [(.aload 0, 1), (.getfield 1229, 3), (.aload 0, 1), (.multianewarray 12 31, 3), (.iaload, 1), (.iconst 97, 2), (.iconst 122, 2)] (S' := (88, [(0, .inr (.inr (some (12, 0))))], [.inl (122 : Int32), .inl (97 : Int32), .inl (rg (rsl (rs (rs (rs M 12 0 32 (rg M 12 0 31)) 12 0 34 (0 : Int32)) 12 0 35 (0 : Int32)) 12 0 33 (-2 : Int64)) 1329 0 (nx (rg (rsl (rs (rs (rs M 12 0 32 (rg M 12 0 31)) 12 0 34 (0 : Int32)) 12 0 35 (0 : Int32)) 12 0 33 (-2 : Int64)) 12 0 31)))], zfR (rsl (rs (rs (rs M 12 0 32 (rg M 12 0 31)) 12 0 34 (0 : Int32)) 12 0 35 (0 : Int32)) 12 0 33 (-2 : Int64)))) (b := zin (rg (rsl (rs (rs (rs M 12 0 32 (rg M 12 0 31)) 12 0 34 (0 : Int32)) 12 0 35 (0 : Int32)) 12 0 33 (-2 : Int64)) 12 0 31) 120 && true) (by decide +kernel) rfl hg1 ?_
    obtain ⟨r2, M2, hc2, h⟩ := zbd_inv h
    refine zcallS Hy.1 (as := [.inl (rg (rsl (rs (rs (rs M 12 0 32 (rg M 12 0 31)) 12 0 34 (0 : Int32)) 12 0 35 (0 : Int32)) 12 0 33 (-2 : Int64)) 1329 0 (nx (rg (rsl (rs (rs (rs M 12 0 32 (rg M 12 0 31)) 12 0 34 (0 : Int32)) 12 0 35 (0 : Int32)) 12 0 33 (-2 : Int64)) 12 0 31))), .inl (97 : Int32), .inl (122 : Int32)]) (st := []) (m12_in_met (zOK_G Hy.1) Hy.2.1 hc2) cw12_171 m12_in_in rfl (zroom Hy.2.2 ⟨by decide, by decide⟩) rfl (by decide +kernel) ⟨Nat.zero_le _, Nat.zero_le _⟩ ?_
    refine zif_eq Hy.1 (off := 129) (tgt := 220) (by decide +kernel) (by decide) (fun hb19 => ?_) (fun hb19 => ?_)
    · replace h := zite_t h hb19
      obtain ⟨hg3, h⟩ := zgd_inv h
      refine zblq Hy.1 Hy.2.1 [(.aload 0, 1), (.getfield 1229, 3), (.aload 0, 1), (.multianewarray 12 31, 3), (.iaload, 1), (.iconst 48, 2), (.iconst 57, 2)] (S' := (233, [(0, .inr (.inr (some (12, 0))))], [.inl (57 : Int32), .inl (48 : Int32), .inl (rg M2 1329 0 (nx (rg M2 12 0 31)))], zfR M2)) (b := zin (rg M2 12 0 31) 120 && true) (by decide +kernel) rfl hg3 ?_
      obtain ⟨r4, M4, hc4, h⟩ := zbd_inv h
      refine zcallS Hy.1 (as := [.inl (rg M2 1329 0 (nx (rg M2 12 0 31))), .inl (48 : Int32), .inl (57 : Int32)]) (st := []) (m12_in_met (zOK_G Hy.1) Hy.2.1 hc4) cw12_171 m12_in_in rfl (zroom Hy.2.2 ⟨by decide, by decide⟩) rfl (by decide +kernel) ⟨Nat.zero_le _, Nat.zero_le _⟩ ?_
      refine zif_eq Hy.1 (off := 102) (tgt := 338) (by decide +kernel) (by decide) (fun hb11 => ?_) (fun hb11 => ?_)
      · replace h := zite_t h hb11
        refine zblq Hy.1 Hy.2.1 [(.aload 0, 1), (.goto_w (-1), 3), (.checkcast 1233, 3), (.aload 0, 1), (.dup, 1), (.multianewarray 12 31, 3), (.iconst 1, 1), (.iadd, 1), (.invokeinterface 12 31, 3)] (S' := (355, [(0, .inr (.inr (some (12, 0))))], [], zfR (rs (rsl M4 12 0 33 (-1 : Int64)) 12 0 31 ((rg (rsl M4 12 0 33 (-1 : Int64)) 12 0 31) + (1 : Int32))))) (b := true) (by decide +kernel) rfl rfl ?_
        cases h
        exact zret_v Hy.1 Hy.2.2 hE (by decide +kernel)
      · replace h := zite_f h hb11
        refine zblq Hy.1 Hy.2.1 [(.aload 0, 1), (.goto_w (-1), 3), (.checkcast 1233, 3)] (S' := (246, [(0, .inr (.inr (some (12, 0))))], [], zfR (rsl M4 12 0 33 (-1 : Int64)))) (b := true) (by decide +kernel) rfl rfl ?_
        refine zGo_keep [0] rfl ?_
        exact m12_nextToken_246_ok Hy hE zfu (rsl M4 12 0 33 (-1 : Int64)) h
    · replace h := zite_f h hb19
      refine zblq Hy.1 Hy.2.1 [(.aload 0, 1), (.goto_w 0, 1), (.checkcast 1233, 3)] (S' := (99, [(0, .inr (.inr (some (12, 0))))], [], zfR (rsl M2 12 0 33 (0 : Int64)))) (b := true) (by decide +kernel) rfl rfl ?_
      refine zGo_keep [0] rfl ?_
      exact m12_nextToken_99_ok Hy hE zfu (rsl M2 12 0 33 (0 : Int64)) h
  · replace h := zite_t h hb20
    cases h
    exact zret_v Hy.1 Hy.2.2 hE (by decide +kernel)
def m12_nextToken_0 : Nat → rM → Option rM
  | 0, _ => none
  | n + 1, M => (if (rg M 12 0 28) ≤ (rg M 12 0 31) then m12_nextToken_38 M else zgd (zin (rg M 12 0 31) 120 && true) ((if (rg M 1329 0 (nx (rg M 12 0 31))) = (32 : Int32) then (m12_nextToken_0 n) (rs M 12 0 31 ((rg M 12 0 31) + (1 : Int32))) else m12_nextToken_38 M)))
theorem m12_nextToken_0_ok {X : zX} {G : zG} (Hy : zHy X G q12_nextToken zcR 1 22 (none)) {M' : rM} (hE : zEnd X G (none) (zfR M')) : ∀ (n : Nat)  (M : rM), m12_nextToken_0 n M = some M' → zGo (X, q12_nextToken, G) 0 0 (0, [(0, .inr (.inr (some (12, 0))))], [], zfR M) := by
  intro n
  induction n with
  | zero => intro M h; cases h
  | succ n ih =>
    intro M h
    unfold m12_nextToken_0 at h
    refine zblq Hy.1 Hy.2.1 [(.aload 0, 1), (.multianewarray 12 31, 3), (.aload 0, 1), (.multianewarray 12 28, 3)] (S' := (8, [(0, .inr (.inr (some (12, 0))))], [.inl (rg M 12 0 28), .inl (rg M 12 0 31)], zfR M)) (b := true) (by decide +kernel) rfl rfl ?_
    refine zic_ge Hy.1 (off := 30) (tgt := 38) (by decide +kernel) (by decide) (fun hb24 => ?_) (fun hb24 => ?_)
    · replace h := zite_t h hb24
      refine zGo_keep [0] rfl ?_
      exact m12_nextToken_38_ok Hy hE M h
    · replace h := zite_f h hb24
      obtain ⟨hg22, h⟩ := zgd_inv h
      refine zblq Hy.1 Hy.2.1 [(.aload 0, 1), (.getfield 1229, 3), (.aload 0, 1), (.multianewarray 12 31, 3), (.iaload, 1), (.iconst 32, 2)] (S' := (22, [(0, .inr (.inr (some (12, 0))))], [.inl (32 : Int32), .inl (rg M 1329 0 (nx (rg M 12 0 31)))], zfR M)) (b := zin (rg M 12 0 31) 120 && true) (by decide +kernel) rfl hg22 ?_
      refine zic_ne Hy.1 (off := 16) (tgt := 38) (by decide +kernel) (by decide) (fun hb23 => ?_) (fun hb23 => ?_)
      · replace h := zite_f h hb23
        refine zGo_keep [0] rfl ?_
        exact m12_nextToken_38_ok Hy hE M h
      · replace h := zite_t h hb23
        refine zblq Hy.1 Hy.2.1 [(.aload 0, 1), (.dup, 1), (.multianewarray 12 31, 3), (.iconst 1, 1), (.iadd, 1), (.invokeinterface 12 31, 3), (.ldc 0, 3)] (S' := (0, [(0, .inr (.inr (some (12, 0))))], [], zfR (rs M 12 0 31 ((rg M 12 0 31) + (1 : Int32))))) (b := true) (by decide +kernel) rfl rfl ?_
        refine zGo_keep [0] rfl ?_
        exact ih (rs M 12 0 31 ((rg M 12 0 31) + (1 : Int32))) h
def m12_nextToken  (M : rM) : Option rM := (if (rg M 12 0 28) ≤ (rg M 12 0 31) then m12_nextToken_38 M else zgd (zin (rg M 12 0 31) 120 && true) ((if (rg M 1329 0 (nx (rg M 12 0 31))) = (32 : Int32) then m12_nextToken_0 zfu (rs M 12 0 31 ((rg M 12 0 31) + (1 : Int32))) else m12_nextToken_38 M)))
theorem m12_nextToken_ok {X : zX} {G : zG} (Hy : zHy X G q12_nextToken zcR 1 22 (none)) {M' : rM} (hE : zEnd X G (none) (zfR M'))  (M : rM) (h : m12_nextToken M = some M') : zGo (X, q12_nextToken, G) 0 0 (0, [(0, .inr (.inr (some (12, 0))))], [], zfR M) := by
  unfold m12_nextToken at h
  refine zblq Hy.1 Hy.2.1 [(.aload 0, 1), (.multianewarray 12 31, 3), (.aload 0, 1), (.multianewarray 12 28, 3)] (S' := (8, [(0, .inr (.inr (some (12, 0))))], [.inl (rg M 12 0 28), .inl (rg M 12 0 31)], zfR M)) (b := true) (by decide +kernel) rfl rfl ?_
  refine zic_ge Hy.1 (off := 30) (tgt := 38) (by decide +kernel) (by decide) (fun hb26 => ?_) (fun hb26 => ?_)
  · replace h := zite_t h hb26
    refine zGo_keep [0] rfl ?_
    exact m12_nextToken_38_ok Hy hE M h
  · replace h := zite_f h hb26
    obtain ⟨hg21, h⟩ := zgd_inv h
    refine zblq Hy.1 Hy.2.1 [(.aload 0, 1), (.getfield 1229, 3), (.aload 0, 1), (.multianewarray 12 31, 3), (.iaload, 1), (.iconst 32, 2)] (S' := (22, [(0, .inr (.inr (some (12, 0))))], [.inl (32 : Int32), .inl (rg M 1329 0 (nx (rg M 12 0 31)))], zfR M)) (b := zin (rg M 12 0 31) 120 && true) (by decide +kernel) rfl hg21 ?_
    refine zic_ne Hy.1 (off := 16) (tgt := 38) (by decide +kernel) (by decide) (fun hb25 => ?_) (fun hb25 => ?_)
    · replace h := zite_f h hb25
      refine zGo_keep [0] rfl ?_
      exact m12_nextToken_38_ok Hy hE M h
    · replace h := zite_t h hb25
      refine zblq Hy.1 Hy.2.1 [(.aload 0, 1), (.dup, 1), (.multianewarray 12 31, 3), (.iconst 1, 1), (.iadd, 1), (.invokeinterface 12 31, 3), (.ldc 0, 3)] (S' := (0, [(0, .inr (.inr (some (12, 0))))], [], zfR (rs M 12 0 31 ((rg M 12 0 31) + (1 : Int32))))) (b := true) (by decide +kernel) rfl rfl ?_
      refine zGo_keep [0] rfl ?_
      exact m12_nextToken_0_ok Hy hE zfu (rs M 12 0 31 ((rg M 12 0 31) + (1 : Int32))) h
theorem m12_nextToken_met {l : Launch} {G : zG} (hG : zGok G) (hcn : zgcn G = zcR)  {M : rM} {M' : rM} (h : m12_nextToken M = some M') : zMet l G yX12_nextToken cX12_nextToken 1 (none) 1 22 [.inr (.inr (some (12, 0)))] (zfR M) (none) (zfR M') :=
  zMet_of hG tbX12_ok rfl (by decide +kernel) (Nat.le_of_ble_eq_true rfl) (fun X _ Z hA hE => m12_nextToken_ok ⟨Z, hcn, hA⟩ hE M h)
abbrev q12_isWord : ByteArray × Nat × String × zT := (cX12_isWord, 3, RX12, tbX12)
def m12_isWord (x1 : Int64) (M : rM) : Option (Int32 × rM) := (if (lg_cmp (rgl M 12 0 33) x1) = 0 then some ((1 : Int32), M) else some ((0 : Int32), M))
theorem m12_isWord_ok {X : zX} {G : zG} (Hy : zHy X G q12_isWord zcR 0 0 (some .boolean)) {r : Int32} {M' : rM} (hE : zEnd X G (some (.inl r)) (zfR M')) (x1 : Int64) (M : rM) (h : m12_isWord x1 M = some (r, M')) : zGo (X, q12_isWord, G) 0 0 (0, [(0, .inr (.inr (some (12, 0)))), (1, .inr (.inl x1))], [], zfR M) := by
  unfold m12_isWord at h
  refine zblq Hy.1 Hy.2.1 [(.aload 0, 1), (.anewarray 1233, 3), (.lload 1, 1), (.lcmp, 1)] (S' := (6, [(0, .inr (.inr (some (12, 0)))), (1, .inr (.inl x1))], [.inl (lg_cmp (rgl M 12 0 33) x1)], zfR M)) (b := true) (by decide +kernel) rfl rfl ?_
  refine zif_ne Hy.1 (off := 7) (tgt := 13) (by decide +kernel) (by decide) (fun hb1 => ?_) (fun hb1 => ?_)
  · replace h := zite_f h hb1
    refine zblq Hy.1 Hy.2.1 [(.iconst 0, 1)] (S' := (14, [(0, .inr (.inr (some (12, 0)))), (1, .inr (.inl x1))], [.inl (0 : Int32)], zfR M)) (b := true) (by decide +kernel) rfl rfl ?_
    cases h
    exact zret_z Hy.1 Hy.2.2 (by decide) hE (by decide +kernel)
  · replace h := zite_t h hb1
    refine zblq Hy.1 Hy.2.1 [(.iconst 1, 1), (.ldc 14, 3)] (S' := (14, [(0, .inr (.inr (some (12, 0)))), (1, .inr (.inl x1))], [.inl (1 : Int32)], zfR M)) (b := true) (by decide +kernel) rfl rfl ?_
    cases h
    exact zret_z Hy.1 Hy.2.2 (by decide) hE (by decide +kernel)
theorem m12_isWord_met {l : Launch} {G : zG} (hG : zGok G) (hcn : zgcn G = zcR) {x1 : Int64} {M : rM} {r : Int32} {M' : rM} (h : m12_isWord x1 M = some (r, M')) : zMet l G yX12_isWord cX12_isWord 3 (some .boolean) 0 0 [.inr (.inr (some (12, 0))), .inr (.inl x1)] (zfR M) (some (.inl r)) (zfR M') :=
  zMet_of hG tbX12_ok rfl (by decide +kernel) (Nat.le_of_ble_eq_true rfl) (fun X _ Z hA hE => m12_isWord_ok ⟨Z, hcn, hA⟩ hE x1 M h)
abbrev q12_isNumber : ByteArray × Nat × String × zT := (cX12_isNumber, 3, RX12, tbX12)
def m12_isNumber (x1 : Int32) (x2 : Int32) (M : rM) : Option (Int32 × rM) := zbd (m12_in (rg M 12 0 34) (1 : Int32) (2 : Int32) M) (fun r1 M1 => (if r1 = 0 then some ((0 : Int32), M1) else zbd (m12_in (rg M1 12 0 35) x1 x2 M1) (fun r2 M2 => (if r2 = 0 then some ((0 : Int32), M2) else some ((1 : Int32), M2)))))
theorem m12_isNumber_ok {X : zX} {G : zG} (Hy : zHy X G q12_isNumber zcR 1 22 (some .boolean)) {r : Int32} {M' : rM} (hE : zEnd X G (some (.inl r)) (zfR M')) (x1 : Int32) (x2 : Int32) (M : rM) (h : m12_isNumber x1 x2 M = some (r, M')) : zGo (X, q12_isNumber, G) 0 0 (0, [(0, .inr (.inr (some (12, 0)))), (1, .inl x1), (2, .inl x2)], [], zfR M) := by
  unfold m12_isNumber at h
  refine zblq Hy.1 Hy.2.1 [(.aload 0, 1), (.multianewarray 12 34, 3), (.iconst 1, 1), (.iconst 2, 1)] (S' := (6, [(0, .inr (.inr (some (12, 0)))), (1, .inl x1), (2, .inl x2)], [.inl (2 : Int32), .inl (1 : Int32), .inl (rg M 12 0 34)], zfR M)) (b := true) (by decide +kernel) rfl rfl ?_
  obtain ⟨r1, M1, hc1, h⟩ := zbd_inv h
  refine zcallS Hy.1 (as := [.inl (rg M 12 0 34), .inl (1 : Int32), .inl (2 : Int32)]) (st := []) (m12_in_met (zOK_G Hy.1) Hy.2.1 hc1) cw12_171 m12_in_in rfl (zroom Hy.2.2 ⟨by decide, by decide⟩) rfl (by decide +kernel) ⟨Nat.zero_le _, Nat.zero_le _⟩ ?_
  refine zif_eq Hy.1 (off := 19) (tgt := 28) (by decide +kernel) (by decide) (fun hb4 => ?_) (fun hb4 => ?_)
  · replace h := zite_t h hb4
    refine zblq Hy.1 Hy.2.1 [(.iconst 0, 1)] (S' := (29, [(0, .inr (.inr (some (12, 0)))), (1, .inl x1), (2, .inl x2)], [.inl (0 : Int32)], zfR M1)) (b := true) (by decide +kernel) rfl rfl ?_
    cases h
    exact zret_z Hy.1 Hy.2.2 (by decide) hE (by decide +kernel)
  · replace h := zite_f h hb4
    refine zblq Hy.1 Hy.2.1 [(.aload 0, 1), (.multianewarray 12 35, 3), (.iload 1, 1), (.iload 2, 1)] (S' := (18, [(0, .inr (.inr (some (12, 0)))), (1, .inl x1), (2, .inl x2)], [.inl x2, .inl x1, .inl (rg M1 12 0 35)], zfR M1)) (b := true) (by decide +kernel) rfl rfl ?_
    obtain ⟨r2, M2, hc2, h⟩ := zbd_inv h
    refine zcallS Hy.1 (as := [.inl (rg M1 12 0 35), .inl x1, .inl x2]) (st := []) (m12_in_met (zOK_G Hy.1) Hy.2.1 hc2) cw12_171 m12_in_in rfl (zroom Hy.2.2 ⟨by decide, by decide⟩) rfl (by decide +kernel) ⟨Nat.zero_le _, Nat.zero_le _⟩ ?_
    refine zif_eq Hy.1 (off := 7) (tgt := 28) (by decide +kernel) (by decide) (fun hb3 => ?_) (fun hb3 => ?_)
    · replace h := zite_t h hb3
      refine zblq Hy.1 Hy.2.1 [(.iconst 0, 1)] (S' := (29, [(0, .inr (.inr (some (12, 0)))), (1, .inl x1), (2, .inl x2)], [.inl (0 : Int32)], zfR M2)) (b := true) (by decide +kernel) rfl rfl ?_
      cases h
      exact zret_z Hy.1 Hy.2.2 (by decide) hE (by decide +kernel)
    · replace h := zite_f h hb3
      refine zblq Hy.1 Hy.2.1 [(.iconst 1, 1), (.ldc 29, 3)] (S' := (29, [(0, .inr (.inr (some (12, 0)))), (1, .inl x1), (2, .inl x2)], [.inl (1 : Int32)], zfR M2)) (b := true) (by decide +kernel) rfl rfl ?_
      cases h
      exact zret_z Hy.1 Hy.2.2 (by decide) hE (by decide +kernel)
theorem m12_isNumber_met {l : Launch} {G : zG} (hG : zGok G) (hcn : zgcn G = zcR) {x1 : Int32} {x2 : Int32} {M : rM} {r : Int32} {M' : rM} (h : m12_isNumber x1 x2 M = some (r, M')) : zMet l G yX12_isNumber cX12_isNumber 3 (some .boolean) 1 22 [.inr (.inr (some (12, 0))), .inl x1, .inl x2] (zfR M) (some (.inl r)) (zfR M') :=
  zMet_of hG tbX12_ok rfl (by decide +kernel) (Nat.le_of_ble_eq_true rfl) (fun X _ Z hA hE => m12_isNumber_ok ⟨Z, hcn, hA⟩ hE x1 x2 M h)
abbrev q12_fails : ByteArray × Nat × String × zT := (cX12_fails, 1, RX12, tbX12)
def m12_fails  (M : rM) : Option (Int32 × rM) := some ((0 : Int32), rs M 12 0 30 (rg M 12 0 32))
theorem m12_fails_ok {X : zX} {G : zG} (Hy : zHy X G q12_fails zcR 0 0 (some .boolean)) {r : Int32} {M' : rM} (hE : zEnd X G (some (.inl r)) (zfR M'))  (M : rM) (h : m12_fails M = some (r, M')) : zGo (X, q12_fails, G) 0 0 (0, [(0, .inr (.inr (some (12, 0))))], [], zfR M) := by
  unfold m12_fails at h
  refine zblq Hy.1 Hy.2.1 [(.aload 0, 1), (.aload 0, 1), (.multianewarray 12 32, 3), (.invokeinterface 12 30, 3), (.iconst 0, 1)] (S' := (9, [(0, .inr (.inr (some (12, 0))))], [.inl (0 : Int32)], zfR (rs M 12 0 30 (rg M 12 0 32)))) (b := true) (by decide +kernel) rfl rfl ?_
  cases h
  exact zret_z Hy.1 Hy.2.2 (by decide) hE (by decide +kernel)
theorem m12_fails_met {l : Launch} {G : zG} (hG : zGok G) (hcn : zgcn G = zcR)  {M : rM} {r : Int32} {M' : rM} (h : m12_fails M = some (r, M')) : zMet l G yX12_fails cX12_fails 1 (some .boolean) 0 0 [.inr (.inr (some (12, 0)))] (zfR M) (some (.inl r)) (zfR M') :=
  zMet_of hG tbX12_ok rfl (by decide +kernel) (Nat.le_of_ble_eq_true rfl) (fun X _ Z hA hE => m12_fails_ok ⟨Z, hcn, hA⟩ hE M h)
abbrev q12_isRead : ByteArray × Nat × String × zT := (cX12_isRead, 2, RX12, tbX12)
def m12_isRead_316 (k126 : Int32 → rM → Option (Int32 × rM)) (t0 : Int32) (M : rM) : Option (Int32 × rM) := k126 t0 M
theorem m12_isRead_316_ok {X : zX} {G : zG} (Hy : zHy X G q12_isRead zcR 2 44 (some .boolean)) {r : Int32} {M' : rM} (hE : zEnd X G (some (.inl r)) (zfR M')) {k126 : Int32 → rM → Option (Int32 × rM)} (hk126 : ∀ (x1 : Int32) (M : rM), k126 x1 M = some (r, M') → zGo (X, q12_isRead, G) 0 0 (126, [(0, .inr (.inr (some (12, 0)))), (1, .inl x1)], [], zfR M)) (t0 : Int32) (M : rM) (h : m12_isRead_316 k126 t0 M = some (r, M')) : zGo (X, q12_isRead, G) 0 0 (316, [(0, .inr (.inr (some (12, 0))))], [.inl t0], zfR M) := by
  unfold m12_isRead_316 at h
  refine zblq Hy.1 Hy.2.1 [(.istore 1, 1), (.ldc 126, 3)] (S' := (126, [(0, .inr (.inr (some (12, 0)))), (1, .inl t0)], [], zfR M)) (b := true) (by decide +kernel) rfl rfl ?_
  refine zGo_keep [0, 1] rfl ?_
  exact hk126 t0 M h
def m12_isRead_241 (k126 : Int32 → rM → Option (Int32 × rM)) (t1 : Int32) (t2 : Int32) (M : rM) : Option (Int32 × rM) := zgd (zin t1 24 && true) (zbv (m12_nextToken (rs M 1339 0 (nx t1) t2)) (fun M29 => zbd (m12_isNumber (0 : Int32) (99 : Int32) M29) (fun r30 M30 => (if r30 = 0 then zbd (m12_fails M30) (fun r36 M36 => zgd (zbl r36) (some (r36, M36))) else zgd (zin (((3 : Int32) * (rg M30 12 0 38)) + (2 : Int32)) 24 && true) (zbv (m12_nextToken (rs (rs M30 1339 0 (nx (((3 : Int32) * (rg M30 12 0 38)) + (2 : Int32))) (rg M30 12 0 35)) 12 0 38 ((rg (rs M30 1339 0 (nx (((3 : Int32) * (rg M30 12 0 38)) + (2 : Int32))) (rg M30 12 0 35)) 12 0 38) + (1 : Int32)))) (fun M32 => zbd (m12_isWord (1111 : Int64) M32) (fun r33 M33 => (if r33 = 0 then m12_isRead_316 k126 (0 : Int32) M33 else (if (8 : Int32) ≤ (rg M33 12 0 38) then m12_isRead_316 k126 (0 : Int32) M33 else m12_isRead_316 k126 (1 : Int32) M33)))))))))
theorem m12_isRead_241_ok {X : zX} {G : zG} (Hy : zHy X G q12_isRead zcR 2 44 (some .boolean)) {r : Int32} {M' : rM} (hE : zEnd X G (some (.inl r)) (zfR M')) {k126 : Int32 → rM → Option (Int32 × rM)} (hk126 : ∀ (x1 : Int32) (M : rM), k126 x1 M = some (r, M') → zGo (X, q12_isRead, G) 0 0 (126, [(0, .inr (.inr (some (12, 0)))), (1, .inl x1)], [], zfR M)) (t1 : Int32) (t2 : Int32) (M : rM) (h : m12_isRead_241 k126 t1 t2 M = some (r, M')) : zGo (X, q12_isRead, G) 0 0 (241, [(0, .inr (.inr (some (12, 0))))], [.inl t2, .inl t1, .inr (.inr (some (1339, 0)))], zfR M) := by
  unfold m12_isRead_241 at h
  obtain ⟨hg28, h⟩ := zgd_inv h
  refine zblq Hy.1 Hy.2.1 [(.iastore, 1), (.aload 0, 1)] (S' := (243, [(0, .inr (.inr (some (12, 0))))], [.inr (.inr (some (12, 0)))], zfR (rs M 1339 0 (nx t1) t2))) (b := zin t1 24 && true) (by decide +kernel) rfl hg28 ?_
  obtain ⟨M29, hc29, h⟩ := zbv_inv h
  refine zcallV Hy.1 (as := []) (st := []) (m12_nextToken_met (zOK_G Hy.1) Hy.2.1 hc29) cw12_298 m12_nextToken_in m12_nextToken_se (by decide) (zhlv Hy.2.1 rfl) rfl (zroom Hy.2.2 ⟨by decide, by decide⟩) rfl (by decide +kernel) ⟨Nat.zero_le _, Nat.zero_le _⟩ ?_
  refine zblq Hy.1 Hy.2.1 [(.aload 0, 1), (.iconst 0, 1), (.iconst 99, 2)] (S' := (250, [(0, .inr (.inr (some (12, 0))))], [.inl (99 : Int32), .inl (0 : Int32), .inr (.inr (some (12, 0)))], zfR M29)) (b := true) (by decide +kernel) rfl rfl ?_
  obtain ⟨r30, M30, hc30, h⟩ := zbd_inv h
  refine zcallV Hy.1 (as := [.inl (0 : Int32), .inl (99 : Int32)]) (st := []) (m12_isNumber_met (zOK_G Hy.1) Hy.2.1 hc30) cw12_329 m12_isNumber_in m12_isNumber_se (by decide) (zhlv Hy.2.1 rfl) rfl (zroom Hy.2.2 ⟨by decide, by decide⟩) rfl (by decide +kernel) ⟨Nat.zero_le _, Nat.zero_le _⟩ ?_
  refine zif_ne Hy.1 (off := 8) (tgt := 261) (by decide +kernel) (by decide) (fun hb38 => ?_) (fun hb38 => ?_)
  · replace h := zite_f h hb38
    obtain ⟨hg31, h⟩ := zgd_inv h
    refine zblq Hy.1 Hy.2.1 [(.aload 0, 1), (.getfield 1239, 3), (.iconst 3, 1), (.aload 0, 1), (.multianewarray 12 38, 3), (.imul, 1), (.iconst 2, 1), (.iadd, 1), (.aload 0, 1), (.multianewarray 12 35, 3), (.iastore, 1), (.aload 0, 1), (.dup, 1), (.multianewarray 12 38, 3), (.iconst 1, 1), (.iadd, 1), (.invokeinterface 12 38, 3), (.aload 0, 1)] (S' := (289, [(0, .inr (.inr (some (12, 0))))], [.inr (.inr (some (12, 0)))], zfR (rs (rs M30 1339 0 (nx (((3 : Int32) * (rg M30 12 0 38)) + (2 : Int32))) (rg M30 12 0 35)) 12 0 38 ((rg (rs M30 1339 0 (nx (((3 : Int32) * (rg M30 12 0 38)) + (2 : Int32))) (rg M30 12 0 35)) 12 0 38) + (1 : Int32))))) (b := zin (((3 : Int32) * (rg M30 12 0 38)) + (2 : Int32)) 24 && true) (by decide +kernel) rfl hg31 ?_
    obtain ⟨M32, hc32, h⟩ := zbv_inv h
    refine zcallV Hy.1 (as := []) (st := []) (m12_nextToken_met (zOK_G Hy.1) Hy.2.1 hc32) cw12_298 m12_nextToken_in m12_nextToken_se (by decide) (zhlv Hy.2.1 rfl) rfl (zroom Hy.2.2 ⟨by decide, by decide⟩) rfl (by decide +kernel) ⟨Nat.zero_le _, Nat.zero_le _⟩ ?_
    refine zblq Hy.1 Hy.2.1 [(.aload 0, 1), (.goto_w 1111, 3)] (S' := (296, [(0, .inr (.inr (some (12, 0))))], [.inr (.inl (1111 : Int64)), .inr (.inr (some (12, 0)))], zfR M32)) (b := true) (by decide +kernel) rfl rfl ?_
    obtain ⟨r33, M33, hc33, h⟩ := zbd_inv h
    refine zcallV Hy.1 (as := [.inr (.inl (1111 : Int64))]) (st := []) (m12_isWord_met (zOK_G Hy.1) Hy.2.1 hc33) cw12_303 m12_isWord_in m12_isWord_se (by decide) (zhlv Hy.2.1 rfl) rfl (zroom Hy.2.2 ⟨by decide, by decide⟩) rfl (by decide +kernel) ⟨Nat.zero_le _, Nat.zero_le _⟩ ?_
    refine zif_eq Hy.1 (off := 16) (tgt := 315) (by decide +kernel) (by decide) (fun hb35 => ?_) (fun hb35 => ?_)
    · replace h := zite_t h hb35
      refine zblq Hy.1 Hy.2.1 [(.iconst 0, 1)] (S' := (316, [(0, .inr (.inr (some (12, 0))))], [.inl (0 : Int32)], zfR M33)) (b := true) (by decide +kernel) rfl rfl ?_
      refine zGo_keep [0] rfl ?_
      exact m12_isRead_316_ok Hy hE hk126 (0 : Int32) M33 h
    · replace h := zite_f h hb35
      refine zblq Hy.1 Hy.2.1 [(.aload 0, 1), (.multianewarray 12 38, 3), (.iconst 8, 2)] (S' := (308, [(0, .inr (.inr (some (12, 0))))], [.inl (8 : Int32), .inl (rg M33 12 0 38)], zfR M33)) (b := true) (by decide +kernel) rfl rfl ?_
      refine zic_ge Hy.1 (off := 7) (tgt := 315) (by decide +kernel) (by decide) (fun hb34 => ?_) (fun hb34 => ?_)
      · replace h := zite_t h hb34
        refine zblq Hy.1 Hy.2.1 [(.iconst 0, 1)] (S' := (316, [(0, .inr (.inr (some (12, 0))))], [.inl (0 : Int32)], zfR M33)) (b := true) (by decide +kernel) rfl rfl ?_
        refine zGo_keep [0] rfl ?_
        exact m12_isRead_316_ok Hy hE hk126 (0 : Int32) M33 h
      · replace h := zite_f h hb34
        refine zblq Hy.1 Hy.2.1 [(.iconst 1, 1), (.ldc 316, 3)] (S' := (316, [(0, .inr (.inr (some (12, 0))))], [.inl (1 : Int32)], zfR M33)) (b := true) (by decide +kernel) rfl rfl ?_
        refine zGo_keep [0] rfl ?_
        exact m12_isRead_316_ok Hy hE hk126 (1 : Int32) M33 h
  · replace h := zite_t h hb38
    refine zblq Hy.1 Hy.2.1 [(.aload 0, 1)] (S' := (257, [(0, .inr (.inr (some (12, 0))))], [.inr (.inr (some (12, 0)))], zfR M30)) (b := true) (by decide +kernel) rfl rfl ?_
    obtain ⟨r36, M36, hc36, h⟩ := zbd_inv h
    refine zcallV Hy.1 (as := []) (st := []) (m12_fails_met (zOK_G Hy.1) Hy.2.1 hc36) cw12_316 m12_fails_in m12_fails_se (by decide) (zhlv Hy.2.1 rfl) rfl (zroom Hy.2.2 ⟨by decide, by decide⟩) rfl (by decide +kernel) ⟨Nat.zero_le _, Nat.zero_le _⟩ ?_
    obtain ⟨hg37, h⟩ := zgd_inv h
    cases h
    exact zret_z Hy.1 Hy.2.2 hg37 hE (by decide +kernel)
def m12_isRead_214 (k126 : Int32 → rM → Option (Int32 × rM))  (M : rM) : Option (Int32 × rM) := zbd (m12_isWord (582341 : Int64) M) (fun r27 M27 => (if r27 = 0 then m12_isRead_241 k126 (((3 : Int32) * (rg M 12 0 38)) + (1 : Int32)) (1 : Int32) M27 else m12_isRead_241 k126 (((3 : Int32) * (rg M 12 0 38)) + (1 : Int32)) (0 : Int32) M27))
theorem m12_isRead_214_ok {X : zX} {G : zG} (Hy : zHy X G q12_isRead zcR 2 44 (some .boolean)) {r : Int32} {M' : rM} (hE : zEnd X G (some (.inl r)) (zfR M')) {k126 : Int32 → rM → Option (Int32 × rM)} (hk126 : ∀ (x1 : Int32) (M : rM), k126 x1 M = some (r, M') → zGo (X, q12_isRead, G) 0 0 (126, [(0, .inr (.inr (some (12, 0)))), (1, .inl x1)], [], zfR M))  (M : rM) (h : m12_isRead_214 k126 M = some (r, M')) : zGo (X, q12_isRead, G) 0 0 (214, [(0, .inr (.inr (some (12, 0))))], [], zfR M) := by
  unfold m12_isRead_214 at h
  refine zblq Hy.1 Hy.2.1 [(.aload 0, 1), (.getfield 1239, 3), (.iconst 3, 1), (.aload 0, 1), (.multianewarray 12 38, 3), (.imul, 1), (.iconst 1, 1), (.iadd, 1), (.aload 0, 1), (.goto_w 582341, 3)] (S' := (230, [(0, .inr (.inr (some (12, 0))))], [.inr (.inl (582341 : Int64)), .inr (.inr (some (12, 0))), .inl (((3 : Int32) * (rg M 12 0 38)) + (1 : Int32)), .inr (.inr (some (1339, 0)))], zfR M)) (b := true) (by decide +kernel) rfl rfl ?_
  obtain ⟨r27, M27, hc27, h⟩ := zbd_inv h
  refine zcallV Hy.1 (as := [.inr (.inl (582341 : Int64))]) (st := [.inl (((3 : Int32) * (rg M 12 0 38)) + (1 : Int32)), .inr (.inr (some (1339, 0)))]) (m12_isWord_met (zOK_G Hy.1) Hy.2.1 hc27) cw12_303 m12_isWord_in m12_isWord_se (by decide) (zhlv Hy.2.1 rfl) rfl (zroom Hy.2.2 ⟨by decide, by decide⟩) rfl (by decide +kernel) ⟨Nat.zero_le _, Nat.zero_le _⟩ ?_
  refine zif_eq Hy.1 (off := 7) (tgt := 240) (by decide +kernel) (by decide) (fun hb39 => ?_) (fun hb39 => ?_)
  · replace h := zite_t h hb39
    refine zblq Hy.1 Hy.2.1 [(.iconst 1, 1)] (S' := (241, [(0, .inr (.inr (some (12, 0))))], [.inl (1 : Int32), .inl (((3 : Int32) * (rg M 12 0 38)) + (1 : Int32)), .inr (.inr (some (1339, 0)))], zfR M27)) (b := true) (by decide +kernel) rfl rfl ?_
    refine zGo_keep [0] rfl ?_
    exact m12_isRead_241_ok Hy hE hk126 (((3 : Int32) * (rg M 12 0 38)) + (1 : Int32)) (1 : Int32) M27 h
  · replace h := zite_f h hb39
    refine zblq Hy.1 Hy.2.1 [(.iconst 0, 1), (.ldc 241, 3)] (S' := (241, [(0, .inr (.inr (some (12, 0))))], [.inl (0 : Int32), .inl (((3 : Int32) * (rg M 12 0 38)) + (1 : Int32)), .inr (.inr (some (1339, 0)))], zfR M27)) (b := true) (by decide +kernel) rfl rfl ?_
    refine zGo_keep [0] rfl ?_
    exact m12_isRead_241_ok Hy hE hk126 (((3 : Int32) * (rg M 12 0 38)) + (1 : Int32)) (0 : Int32) M27 h
def m12_isRead_184 (k126 : Int32 → rM → Option (Int32 × rM)) (t1 : Int32) (t2 : Int32) (M : rM) : Option (Int32 × rM) := zgd (zin t1 24 && true) (zbv (m12_nextToken (rs M 1339 0 (nx t1) t2)) (fun M25 => zbd (m12_isWord (582341 : Int64) M25) (fun r26 M26 => (if r26 = 0 then zbd (m12_isWord (1170473 : Int64) M26) (fun r40 M40 => (if r40 = 0 then zbd (m12_fails M40) (fun r41 M41 => zgd (zbl r41) (some (r41, M41))) else m12_isRead_214 k126 M40)) else m12_isRead_214 k126 M26))))
theorem m12_isRead_184_ok {X : zX} {G : zG} (Hy : zHy X G q12_isRead zcR 2 44 (some .boolean)) {r : Int32} {M' : rM} (hE : zEnd X G (some (.inl r)) (zfR M')) {k126 : Int32 → rM → Option (Int32 × rM)} (hk126 : ∀ (x1 : Int32) (M : rM), k126 x1 M = some (r, M') → zGo (X, q12_isRead, G) 0 0 (126, [(0, .inr (.inr (some (12, 0)))), (1, .inl x1)], [], zfR M)) (t1 : Int32) (t2 : Int32) (M : rM) (h : m12_isRead_184 k126 t1 t2 M = some (r, M')) : zGo (X, q12_isRead, G) 0 0 (184, [(0, .inr (.inr (some (12, 0))))], [.inl t2, .inl t1, .inr (.inr (some (1339, 0)))], zfR M) := by
  unfold m12_isRead_184 at h
  obtain ⟨hg24, h⟩ := zgd_inv h
  refine zblq Hy.1 Hy.2.1 [(.iastore, 1), (.aload 0, 1)] (S' := (186, [(0, .inr (.inr (some (12, 0))))], [.inr (.inr (some (12, 0)))], zfR (rs M 1339 0 (nx t1) t2))) (b := zin t1 24 && true) (by decide +kernel) rfl hg24 ?_
  obtain ⟨M25, hc25, h⟩ := zbv_inv h
  refine zcallV Hy.1 (as := []) (st := []) (m12_nextToken_met (zOK_G Hy.1) Hy.2.1 hc25) cw12_298 m12_nextToken_in m12_nextToken_se (by decide) (zhlv Hy.2.1 rfl) rfl (zroom Hy.2.2 ⟨by decide, by decide⟩) rfl (by decide +kernel) ⟨Nat.zero_le _, Nat.zero_le _⟩ ?_
  refine zblq Hy.1 Hy.2.1 [(.aload 0, 1), (.goto_w 582341, 3)] (S' := (193, [(0, .inr (.inr (some (12, 0))))], [.inr (.inl (582341 : Int64)), .inr (.inr (some (12, 0)))], zfR M25)) (b := true) (by decide +kernel) rfl rfl ?_
  obtain ⟨r26, M26, hc26, h⟩ := zbd_inv h
  refine zcallV Hy.1 (as := [.inr (.inl (582341 : Int64))]) (st := []) (m12_isWord_met (zOK_G Hy.1) Hy.2.1 hc26) cw12_303 m12_isWord_in m12_isWord_se (by decide) (zhlv Hy.2.1 rfl) rfl (zroom Hy.2.2 ⟨by decide, by decide⟩) rfl (by decide +kernel) ⟨Nat.zero_le _, Nat.zero_le _⟩ ?_
  refine zif_ne Hy.1 (off := 18) (tgt := 214) (by decide +kernel) (by decide) (fun hb44 => ?_) (fun hb44 => ?_)
  · replace h := zite_f h hb44
    refine zGo_keep [0] rfl ?_
    exact m12_isRead_214_ok Hy hE hk126 M26 h
  · replace h := zite_t h hb44
    refine zblq Hy.1 Hy.2.1 [(.aload 0, 1), (.goto_w 1170473, 3)] (S' := (203, [(0, .inr (.inr (some (12, 0))))], [.inr (.inl (1170473 : Int64)), .inr (.inr (some (12, 0)))], zfR M26)) (b := true) (by decide +kernel) rfl rfl ?_
    obtain ⟨r40, M40, hc40, h⟩ := zbd_inv h
    refine zcallV Hy.1 (as := [.inr (.inl (1170473 : Int64))]) (st := []) (m12_isWord_met (zOK_G Hy.1) Hy.2.1 hc40) cw12_303 m12_isWord_in m12_isWord_se (by decide) (zhlv Hy.2.1 rfl) rfl (zroom Hy.2.2 ⟨by decide, by decide⟩) rfl (by decide +kernel) ⟨Nat.zero_le _, Nat.zero_le _⟩ ?_
    refine zif_ne Hy.1 (off := 8) (tgt := 214) (by decide +kernel) (by decide) (fun hb43 => ?_) (fun hb43 => ?_)
    · replace h := zite_f h hb43
      refine zGo_keep [0] rfl ?_
      exact m12_isRead_214_ok Hy hE hk126 M40 h
    · replace h := zite_t h hb43
      refine zblq Hy.1 Hy.2.1 [(.aload 0, 1)] (S' := (210, [(0, .inr (.inr (some (12, 0))))], [.inr (.inr (some (12, 0)))], zfR M40)) (b := true) (by decide +kernel) rfl rfl ?_
      obtain ⟨r41, M41, hc41, h⟩ := zbd_inv h
      refine zcallV Hy.1 (as := []) (st := []) (m12_fails_met (zOK_G Hy.1) Hy.2.1 hc41) cw12_316 m12_fails_in m12_fails_se (by decide) (zhlv Hy.2.1 rfl) rfl (zroom Hy.2.2 ⟨by decide, by decide⟩) rfl (by decide +kernel) ⟨Nat.zero_le _, Nat.zero_le _⟩ ?_
      obtain ⟨hg42, h⟩ := zgd_inv h
      cases h
      exact zret_z Hy.1 Hy.2.2 hg42 hE (by decide +kernel)
def m12_isRead_159 (k126 : Int32 → rM → Option (Int32 × rM))  (M : rM) : Option (Int32 × rM) := zbd (m12_isWord (247702 : Int64) M) (fun r23 M23 => (if r23 = 0 then m12_isRead_184 k126 ((3 : Int32) * (rg M 12 0 38)) (1 : Int32) M23 else m12_isRead_184 k126 ((3 : Int32) * (rg M 12 0 38)) (0 : Int32) M23))
theorem m12_isRead_159_ok {X : zX} {G : zG} (Hy : zHy X G q12_isRead zcR 2 44 (some .boolean)) {r : Int32} {M' : rM} (hE : zEnd X G (some (.inl r)) (zfR M')) {k126 : Int32 → rM → Option (Int32 × rM)} (hk126 : ∀ (x1 : Int32) (M : rM), k126 x1 M = some (r, M') → zGo (X, q12_isRead, G) 0 0 (126, [(0, .inr (.inr (some (12, 0)))), (1, .inl x1)], [], zfR M))  (M : rM) (h : m12_isRead_159 k126 M = some (r, M')) : zGo (X, q12_isRead, G) 0 0 (159, [(0, .inr (.inr (some (12, 0))))], [], zfR M) := by
  unfold m12_isRead_159 at h
  refine zblq Hy.1 Hy.2.1 [(.aload 0, 1), (.getfield 1239, 3), (.iconst 3, 1), (.aload 0, 1), (.multianewarray 12 38, 3), (.imul, 1), (.aload 0, 1), (.goto_w 247702, 3)] (S' := (173, [(0, .inr (.inr (some (12, 0))))], [.inr (.inl (247702 : Int64)), .inr (.inr (some (12, 0))), .inl ((3 : Int32) * (rg M 12 0 38)), .inr (.inr (some (1339, 0)))], zfR M)) (b := true) (by decide +kernel) rfl rfl ?_
  obtain ⟨r23, M23, hc23, h⟩ := zbd_inv h
  refine zcallV Hy.1 (as := [.inr (.inl (247702 : Int64))]) (st := [.inl ((3 : Int32) * (rg M 12 0 38)), .inr (.inr (some (1339, 0)))]) (m12_isWord_met (zOK_G Hy.1) Hy.2.1 hc23) cw12_303 m12_isWord_in m12_isWord_se (by decide) (zhlv Hy.2.1 rfl) rfl (zroom Hy.2.2 ⟨by decide, by decide⟩) rfl (by decide +kernel) ⟨Nat.zero_le _, Nat.zero_le _⟩ ?_
  refine zif_eq Hy.1 (off := 7) (tgt := 183) (by decide +kernel) (by decide) (fun hb45 => ?_) (fun hb45 => ?_)
  · replace h := zite_t h hb45
    refine zblq Hy.1 Hy.2.1 [(.iconst 1, 1)] (S' := (184, [(0, .inr (.inr (some (12, 0))))], [.inl (1 : Int32), .inl ((3 : Int32) * (rg M 12 0 38)), .inr (.inr (some (1339, 0)))], zfR M23)) (b := true) (by decide +kernel) rfl rfl ?_
    refine zGo_keep [0] rfl ?_
    exact m12_isRead_184_ok Hy hE hk126 ((3 : Int32) * (rg M 12 0 38)) (1 : Int32) M23 h
  · replace h := zite_f h hb45
    refine zblq Hy.1 Hy.2.1 [(.iconst 0, 1), (.ldc 184, 3)] (S' := (184, [(0, .inr (.inr (some (12, 0))))], [.inl (0 : Int32), .inl ((3 : Int32) * (rg M 12 0 38)), .inr (.inr (some (1339, 0)))], zfR M23)) (b := true) (by decide +kernel) rfl rfl ?_
    refine zGo_keep [0] rfl ?_
    exact m12_isRead_184_ok Hy hE hk126 ((3 : Int32) * (rg M 12 0 38)) (0 : Int32) M23 h
def m12_isRead_126 : Nat → Int32 → rM → Option (Int32 × rM)
  | 0, _, _ => none
  | n + 1, x1, M => (if x1 = 0 then zbd (m12_isWord (3094387 : Int64) M) (fun r8 M8 => (if r8 = 0 then zbd (m12_fails M8) (fun r18 M18 => zgd (zbl r18) (some (r18, M18))) else zbv (m12_nextToken M8) (fun M9 => zbd (m12_isNumber (1 : Int32) (60 : Int32) M9) (fun r10 M10 => (if r10 = 0 then zbd (m12_fails M10) (fun r15 M15 => zgd (zbl r15) (some (r15, M15))) else zbv (m12_nextToken (rs M10 12 0 37 (rg M10 12 0 35))) (fun M11 => (if (lg_cmp (rgl M11 12 0 33) (-2 : Int64)) = 0 then some ((1 : Int32), M11) else zbd (m12_fails M11) (fun r12 M12 => (if r12 = 0 then some ((0 : Int32), M12) else some ((1 : Int32), M12)))))))))) else zbv (m12_nextToken M) (fun M21 => zbd (m12_isWord (247702 : Int64) M21) (fun r22 M22 => (if r22 = 0 then zbd (m12_isWord (1887 : Int64) M22) (fun r46 M46 => (if r46 = 0 then zbd (m12_fails M46) (fun r47 M47 => zgd (zbl r47) (some (r47, M47))) else m12_isRead_159 (m12_isRead_126 n) M46)) else m12_isRead_159 (m12_isRead_126 n) M22))))
theorem m12_isRead_126_ok {X : zX} {G : zG} (Hy : zHy X G q12_isRead zcR 2 44 (some .boolean)) {r : Int32} {M' : rM} (hE : zEnd X G (some (.inl r)) (zfR M')) : ∀ (n : Nat) (x1 : Int32) (M : rM), m12_isRead_126 n x1 M = some (r, M') → zGo (X, q12_isRead, G) 0 0 (126, [(0, .inr (.inr (some (12, 0)))), (1, .inl x1)], [], zfR M) := by
  intro n
  induction n with
  | zero => intro x1 M h; cases h
  | succ n ih =>
    intro x1 M h
    unfold m12_isRead_126 at h
    refine zblq Hy.1 Hy.2.1 [(.iload 1, 1)] (S' := (127, [(0, .inr (.inr (some (12, 0)))), (1, .inl x1)], [.inl x1], zfR M)) (b := true) (by decide +kernel) rfl rfl ?_
    refine zif_eq Hy.1 (off := 193) (tgt := 320) (by decide +kernel) (by decide) (fun hb51 => ?_) (fun hb51 => ?_)
    · replace h := zite_t h hb51
      refine zblq Hy.1 Hy.2.1 [(.aload 0, 1), (.goto_w 3094387, 3)] (S' := (324, [(0, .inr (.inr (some (12, 0)))), (1, .inl x1)], [.inr (.inl (3094387 : Int64)), .inr (.inr (some (12, 0)))], zfR M)) (b := true) (by decide +kernel) rfl rfl ?_
      obtain ⟨r8, M8, hc8, h⟩ := zbd_inv h
      refine zcallV Hy.1 (as := [.inr (.inl (3094387 : Int64))]) (st := []) (m12_isWord_met (zOK_G Hy.1) Hy.2.1 hc8) cw12_303 m12_isWord_in m12_isWord_se (by decide) (zhlv Hy.2.1 rfl) rfl (zroom Hy.2.2 ⟨by decide, by decide⟩) rfl (by decide +kernel) ⟨Nat.zero_le _, Nat.zero_le _⟩ ?_
      refine zif_ne Hy.1 (off := 8) (tgt := 335) (by decide +kernel) (by decide) (fun hb20 => ?_) (fun hb20 => ?_)
      · replace h := zite_f h hb20
        refine zblq Hy.1 Hy.2.1 [(.aload 0, 1)] (S' := (336, [(0, .inr (.inr (some (12, 0)))), (1, .inl x1)], [.inr (.inr (some (12, 0)))], zfR M8)) (b := true) (by decide +kernel) rfl rfl ?_
        obtain ⟨M9, hc9, h⟩ := zbv_inv h
        refine zcallV Hy.1 (as := []) (st := []) (m12_nextToken_met (zOK_G Hy.1) Hy.2.1 hc9) cw12_298 m12_nextToken_in m12_nextToken_se (by decide) (zhlv Hy.2.1 rfl) rfl (zroom Hy.2.2 ⟨by decide, by decide⟩) rfl (by decide +kernel) ⟨Nat.zero_le _, Nat.zero_le _⟩ ?_
        refine zblq Hy.1 Hy.2.1 [(.aload 0, 1), (.iconst 1, 1), (.iconst 60, 2)] (S' := (343, [(0, .inr (.inr (some (12, 0)))), (1, .inl x1)], [.inl (60 : Int32), .inl (1 : Int32), .inr (.inr (some (12, 0)))], zfR M9)) (b := true) (by decide +kernel) rfl rfl ?_
        obtain ⟨r10, M10, hc10, h⟩ := zbd_inv h
        refine zcallV Hy.1 (as := [.inl (1 : Int32), .inl (60 : Int32)]) (st := []) (m12_isNumber_met (zOK_G Hy.1) Hy.2.1 hc10) cw12_329 m12_isNumber_in m12_isNumber_se (by decide) (zhlv Hy.2.1 rfl) rfl (zroom Hy.2.2 ⟨by decide, by decide⟩) rfl (by decide +kernel) ⟨Nat.zero_le _, Nat.zero_le _⟩ ?_
        refine zif_ne Hy.1 (off := 8) (tgt := 354) (by decide +kernel) (by decide) (fun hb17 => ?_) (fun hb17 => ?_)
        · replace h := zite_f h hb17
          refine zblq Hy.1 Hy.2.1 [(.aload 0, 1), (.aload 0, 1), (.multianewarray 12 35, 3), (.invokeinterface 12 37, 3), (.aload 0, 1)] (S' := (363, [(0, .inr (.inr (some (12, 0)))), (1, .inl x1)], [.inr (.inr (some (12, 0)))], zfR (rs M10 12 0 37 (rg M10 12 0 35)))) (b := true) (by decide +kernel) rfl rfl ?_
          obtain ⟨M11, hc11, h⟩ := zbv_inv h
          refine zcallV Hy.1 (as := []) (st := []) (m12_nextToken_met (zOK_G Hy.1) Hy.2.1 hc11) cw12_298 m12_nextToken_in m12_nextToken_se (by decide) (zhlv Hy.2.1 rfl) rfl (zroom Hy.2.2 ⟨by decide, by decide⟩) rfl (by decide +kernel) ⟨Nat.zero_le _, Nat.zero_le _⟩ ?_
          refine zblq Hy.1 Hy.2.1 [(.aload 0, 1), (.anewarray 1233, 3), (.goto_w (-2), 3), (.lcmp, 1)] (S' := (374, [(0, .inr (.inr (some (12, 0)))), (1, .inl x1)], [.inl (lg_cmp (rgl M11 12 0 33) (-2 : Int64))], zfR M11)) (b := true) (by decide +kernel) rfl rfl ?_
          refine zif_eq Hy.1 (off := 10) (tgt := 384) (by decide +kernel) (by decide) (fun hb14 => ?_) (fun hb14 => ?_)
          · replace h := zite_t h hb14
            refine zblq Hy.1 Hy.2.1 [(.iconst 1, 1), (.ldc 389, 3)] (S' := (389, [(0, .inr (.inr (some (12, 0)))), (1, .inl x1)], [.inl (1 : Int32)], zfR M11)) (b := true) (by decide +kernel) rfl rfl ?_
            cases h
            exact zret_z Hy.1 Hy.2.2 (by decide) hE (by decide +kernel)
          · replace h := zite_f h hb14
            refine zblq Hy.1 Hy.2.1 [(.aload 0, 1)] (S' := (378, [(0, .inr (.inr (some (12, 0)))), (1, .inl x1)], [.inr (.inr (some (12, 0)))], zfR M11)) (b := true) (by decide +kernel) rfl rfl ?_
            obtain ⟨r12, M12, hc12, h⟩ := zbd_inv h
            refine zcallV Hy.1 (as := []) (st := []) (m12_fails_met (zOK_G Hy.1) Hy.2.1 hc12) cw12_316 m12_fails_in m12_fails_se (by decide) (zhlv Hy.2.1 rfl) rfl (zroom Hy.2.2 ⟨by decide, by decide⟩) rfl (by decide +kernel) ⟨Nat.zero_le _, Nat.zero_le _⟩ ?_
            refine zif_eq Hy.1 (off := 7) (tgt := 388) (by decide +kernel) (by decide) (fun hb13 => ?_) (fun hb13 => ?_)
            · replace h := zite_t h hb13
              refine zblq Hy.1 Hy.2.1 [(.iconst 0, 1)] (S' := (389, [(0, .inr (.inr (some (12, 0)))), (1, .inl x1)], [.inl (0 : Int32)], zfR M12)) (b := true) (by decide +kernel) rfl rfl ?_
              cases h
              exact zret_z Hy.1 Hy.2.2 (by decide) hE (by decide +kernel)
            · replace h := zite_f h hb13
              refine zblq Hy.1 Hy.2.1 [(.iconst 1, 1), (.ldc 389, 3)] (S' := (389, [(0, .inr (.inr (some (12, 0)))), (1, .inl x1)], [.inl (1 : Int32)], zfR M12)) (b := true) (by decide +kernel) rfl rfl ?_
              cases h
              exact zret_z Hy.1 Hy.2.2 (by decide) hE (by decide +kernel)
        · replace h := zite_t h hb17
          refine zblq Hy.1 Hy.2.1 [(.aload 0, 1)] (S' := (350, [(0, .inr (.inr (some (12, 0)))), (1, .inl x1)], [.inr (.inr (some (12, 0)))], zfR M10)) (b := true) (by decide +kernel) rfl rfl ?_
          obtain ⟨r15, M15, hc15, h⟩ := zbd_inv h
          refine zcallV Hy.1 (as := []) (st := []) (m12_fails_met (zOK_G Hy.1) Hy.2.1 hc15) cw12_316 m12_fails_in m12_fails_se (by decide) (zhlv Hy.2.1 rfl) rfl (zroom Hy.2.2 ⟨by decide, by decide⟩) rfl (by decide +kernel) ⟨Nat.zero_le _, Nat.zero_le _⟩ ?_
          obtain ⟨hg16, h⟩ := zgd_inv h
          cases h
          exact zret_z Hy.1 Hy.2.2 hg16 hE (by decide +kernel)
      · replace h := zite_t h hb20
        refine zblq Hy.1 Hy.2.1 [(.aload 0, 1)] (S' := (331, [(0, .inr (.inr (some (12, 0)))), (1, .inl x1)], [.inr (.inr (some (12, 0)))], zfR M8)) (b := true) (by decide +kernel) rfl rfl ?_
        obtain ⟨r18, M18, hc18, h⟩ := zbd_inv h
        refine zcallV Hy.1 (as := []) (st := []) (m12_fails_met (zOK_G Hy.1) Hy.2.1 hc18) cw12_316 m12_fails_in m12_fails_se (by decide) (zhlv Hy.2.1 rfl) rfl (zroom Hy.2.2 ⟨by decide, by decide⟩) rfl (by decide +kernel) ⟨Nat.zero_le _, Nat.zero_le _⟩ ?_
        obtain ⟨hg19, h⟩ := zgd_inv h
        cases h
        exact zret_z Hy.1 Hy.2.2 hg19 hE (by decide +kernel)
    · replace h := zite_f h hb51
      refine zblq Hy.1 Hy.2.1 [(.aload 0, 1)] (S' := (131, [(0, .inr (.inr (some (12, 0)))), (1, .inl x1)], [.inr (.inr (some (12, 0)))], zfR M)) (b := true) (by decide +kernel) rfl rfl ?_
      obtain ⟨M21, hc21, h⟩ := zbv_inv h
      refine zcallV Hy.1 (as := []) (st := []) (m12_nextToken_met (zOK_G Hy.1) Hy.2.1 hc21) cw12_298 m12_nextToken_in m12_nextToken_se (by decide) (zhlv Hy.2.1 rfl) rfl (zroom Hy.2.2 ⟨by decide, by decide⟩) rfl (by decide +kernel) ⟨Nat.zero_le _, Nat.zero_le _⟩ ?_
      refine zblq Hy.1 Hy.2.1 [(.aload 0, 1), (.goto_w 247702, 3)] (S' := (138, [(0, .inr (.inr (some (12, 0)))), (1, .inl x1)], [.inr (.inl (247702 : Int64)), .inr (.inr (some (12, 0)))], zfR M21)) (b := true) (by decide +kernel) rfl rfl ?_
      obtain ⟨r22, M22, hc22, h⟩ := zbd_inv h
      refine zcallV Hy.1 (as := [.inr (.inl (247702 : Int64))]) (st := []) (m12_isWord_met (zOK_G Hy.1) Hy.2.1 hc22) cw12_303 m12_isWord_in m12_isWord_se (by decide) (zhlv Hy.2.1 rfl) rfl (zroom Hy.2.2 ⟨by decide, by decide⟩) rfl (by decide +kernel) ⟨Nat.zero_le _, Nat.zero_le _⟩ ?_
      refine zif_ne Hy.1 (off := 18) (tgt := 159) (by decide +kernel) (by decide) (fun hb50 => ?_) (fun hb50 => ?_)
      · replace h := zite_f h hb50
        refine zGo_keep [0] rfl ?_
        exact m12_isRead_159_ok Hy hE ih M22 h
      · replace h := zite_t h hb50
        refine zblq Hy.1 Hy.2.1 [(.aload 0, 1), (.goto_w 1887, 3)] (S' := (148, [(0, .inr (.inr (some (12, 0)))), (1, .inl x1)], [.inr (.inl (1887 : Int64)), .inr (.inr (some (12, 0)))], zfR M22)) (b := true) (by decide +kernel) rfl rfl ?_
        obtain ⟨r46, M46, hc46, h⟩ := zbd_inv h
        refine zcallV Hy.1 (as := [.inr (.inl (1887 : Int64))]) (st := []) (m12_isWord_met (zOK_G Hy.1) Hy.2.1 hc46) cw12_303 m12_isWord_in m12_isWord_se (by decide) (zhlv Hy.2.1 rfl) rfl (zroom Hy.2.2 ⟨by decide, by decide⟩) rfl (by decide +kernel) ⟨Nat.zero_le _, Nat.zero_le _⟩ ?_
        refine zif_ne Hy.1 (off := 8) (tgt := 159) (by decide +kernel) (by decide) (fun hb49 => ?_) (fun hb49 => ?_)
        · replace h := zite_f h hb49
          refine zGo_keep [0] rfl ?_
          exact m12_isRead_159_ok Hy hE ih M46 h
        · replace h := zite_t h hb49
          refine zblq Hy.1 Hy.2.1 [(.aload 0, 1)] (S' := (155, [(0, .inr (.inr (some (12, 0)))), (1, .inl x1)], [.inr (.inr (some (12, 0)))], zfR M46)) (b := true) (by decide +kernel) rfl rfl ?_
          obtain ⟨r47, M47, hc47, h⟩ := zbd_inv h
          refine zcallV Hy.1 (as := []) (st := []) (m12_fails_met (zOK_G Hy.1) Hy.2.1 hc47) cw12_316 m12_fails_in m12_fails_se (by decide) (zhlv Hy.2.1 rfl) rfl (zroom Hy.2.2 ⟨by decide, by decide⟩) rfl (by decide +kernel) ⟨Nat.zero_le _, Nat.zero_le _⟩ ?_
          obtain ⟨hg48, h⟩ := zgd_inv h
          cases h
          exact zret_z Hy.1 Hy.2.2 hg48 hE (by decide +kernel)
def m12_isRead_118  (M : rM) : Option (Int32 × rM) := zbd (m12_isWord (12384743 : Int64) M) (fun r7 M7 => m12_isRead_126 zfu r7 M7)
theorem m12_isRead_118_ok {X : zX} {G : zG} (Hy : zHy X G q12_isRead zcR 2 44 (some .boolean)) {r : Int32} {M' : rM} (hE : zEnd X G (some (.inl r)) (zfR M'))  (M : rM) (h : m12_isRead_118 M = some (r, M')) : zGo (X, q12_isRead, G) 0 0 (118, [(0, .inr (.inr (some (12, 0))))], [], zfR M) := by
  unfold m12_isRead_118 at h
  refine zblq Hy.1 Hy.2.1 [(.aload 0, 1), (.goto_w 12384743, 3)] (S' := (122, [(0, .inr (.inr (some (12, 0))))], [.inr (.inl (12384743 : Int64)), .inr (.inr (some (12, 0)))], zfR M)) (b := true) (by decide +kernel) rfl rfl ?_
  obtain ⟨r7, M7, hc7, h⟩ := zbd_inv h
  refine zcallV Hy.1 (as := [.inr (.inl (12384743 : Int64))]) (st := []) (m12_isWord_met (zOK_G Hy.1) Hy.2.1 hc7) cw12_303 m12_isWord_in m12_isWord_se (by decide) (zhlv Hy.2.1 rfl) rfl (zroom Hy.2.2 ⟨by decide, by decide⟩) rfl (by decide +kernel) ⟨Nat.zero_le _, Nat.zero_le _⟩ ?_
  refine zblq Hy.1 Hy.2.1 [(.istore 1, 1)] (S' := (126, [(0, .inr (.inr (some (12, 0)))), (1, .inl r7)], [], zfR M7)) (b := true) (by decide +kernel) rfl rfl ?_
  refine zGo_keep [0, 1] rfl ?_
  exact m12_isRead_126_ok Hy hE zfu r7 M7 h
def m12_isRead_72 (t1 : Int32) (M : rM) : Option (Int32 × rM) := (if (rg (rs M 12 0 36 t1) 12 0 36) = 0 then zbd (m12_fails (rs M 12 0 36 t1)) (fun r58 M58 => zgd (zbl r58) (some (r58, M58))) else zbv (m12_nextToken (rs M 12 0 36 t1)) (fun M6 => (if (4 : Int32) ≤ (rg M6 12 0 36) then m12_isRead_118 M6 else zbd (m12_isWord (247702 : Int64) M6) (fun r52 M52 => (if r52 = 0 then zbd (m12_fails M52) (fun r54 M54 => zgd (zbl r54) (some (r54, M54))) else zbv (m12_nextToken M52) (fun M53 => m12_isRead_118 M53))))))
theorem m12_isRead_72_ok {X : zX} {G : zG} (Hy : zHy X G q12_isRead zcR 2 44 (some .boolean)) {r : Int32} {M' : rM} (hE : zEnd X G (some (.inl r)) (zfR M')) (t1 : Int32) (M : rM) (h : m12_isRead_72 t1 M = some (r, M')) : zGo (X, q12_isRead, G) 0 0 (72, [(0, .inr (.inr (some (12, 0))))], [.inl t1, .inr (.inr (some (12, 0)))], zfR M) := by
  unfold m12_isRead_72 at h
  refine zblq Hy.1 Hy.2.1 [(.invokeinterface 12 36, 3), (.aload 0, 1), (.multianewarray 12 36, 3)] (S' := (79, [(0, .inr (.inr (some (12, 0))))], [.inl (rg (rs M 12 0 36 t1) 12 0 36)], zfR (rs M 12 0 36 t1))) (b := true) (by decide +kernel) rfl rfl ?_
  refine zif_ne Hy.1 (off := 8) (tgt := 87) (by decide +kernel) (by decide) (fun hb60 => ?_) (fun hb60 => ?_)
  · replace h := zite_f h hb60
    refine zblq Hy.1 Hy.2.1 [(.aload 0, 1)] (S' := (88, [(0, .inr (.inr (some (12, 0))))], [.inr (.inr (some (12, 0)))], zfR (rs M 12 0 36 t1))) (b := true) (by decide +kernel) rfl rfl ?_
    obtain ⟨M6, hc6, h⟩ := zbv_inv h
    refine zcallV Hy.1 (as := []) (st := []) (m12_nextToken_met (zOK_G Hy.1) Hy.2.1 hc6) cw12_298 m12_nextToken_in m12_nextToken_se (by decide) (zhlv Hy.2.1 rfl) rfl (zroom Hy.2.2 ⟨by decide, by decide⟩) rfl (by decide +kernel) ⟨Nat.zero_le _, Nat.zero_le _⟩ ?_
    refine zblq Hy.1 Hy.2.1 [(.aload 0, 1), (.multianewarray 12 36, 3), (.iconst 4, 1)] (S' := (96, [(0, .inr (.inr (some (12, 0))))], [.inl (4 : Int32), .inl (rg M6 12 0 36)], zfR M6)) (b := true) (by decide +kernel) rfl rfl ?_
    refine zic_ge Hy.1 (off := 22) (tgt := 118) (by decide +kernel) (by decide) (fun hb57 => ?_) (fun hb57 => ?_)
    · replace h := zite_t h hb57
      refine zGo_keep [0] rfl ?_
      exact m12_isRead_118_ok Hy hE M6 h
    · replace h := zite_f h hb57
      refine zblq Hy.1 Hy.2.1 [(.aload 0, 1), (.goto_w 247702, 3)] (S' := (103, [(0, .inr (.inr (some (12, 0))))], [.inr (.inl (247702 : Int64)), .inr (.inr (some (12, 0)))], zfR M6)) (b := true) (by decide +kernel) rfl rfl ?_
      obtain ⟨r52, M52, hc52, h⟩ := zbd_inv h
      refine zcallV Hy.1 (as := [.inr (.inl (247702 : Int64))]) (st := []) (m12_isWord_met (zOK_G Hy.1) Hy.2.1 hc52) cw12_303 m12_isWord_in m12_isWord_se (by decide) (zhlv Hy.2.1 rfl) rfl (zroom Hy.2.2 ⟨by decide, by decide⟩) rfl (by decide +kernel) ⟨Nat.zero_le _, Nat.zero_le _⟩ ?_
      refine zif_ne Hy.1 (off := 8) (tgt := 114) (by decide +kernel) (by decide) (fun hb56 => ?_) (fun hb56 => ?_)
      · replace h := zite_f h hb56
        refine zblq Hy.1 Hy.2.1 [(.aload 0, 1)] (S' := (115, [(0, .inr (.inr (some (12, 0))))], [.inr (.inr (some (12, 0)))], zfR M52)) (b := true) (by decide +kernel) rfl rfl ?_
        obtain ⟨M53, hc53, h⟩ := zbv_inv h
        refine zcallV Hy.1 (as := []) (st := []) (m12_nextToken_met (zOK_G Hy.1) Hy.2.1 hc53) cw12_298 m12_nextToken_in m12_nextToken_se (by decide) (zhlv Hy.2.1 rfl) rfl (zroom Hy.2.2 ⟨by decide, by decide⟩) rfl (by decide +kernel) ⟨Nat.zero_le _, Nat.zero_le _⟩ ?_
        refine zGo_keep [0] rfl ?_
        exact m12_isRead_118_ok Hy hE M53 h
      · replace h := zite_t h hb56
        refine zblq Hy.1 Hy.2.1 [(.aload 0, 1)] (S' := (110, [(0, .inr (.inr (some (12, 0))))], [.inr (.inr (some (12, 0)))], zfR M52)) (b := true) (by decide +kernel) rfl rfl ?_
        obtain ⟨r54, M54, hc54, h⟩ := zbd_inv h
        refine zcallV Hy.1 (as := []) (st := []) (m12_fails_met (zOK_G Hy.1) Hy.2.1 hc54) cw12_316 m12_fails_in m12_fails_se (by decide) (zhlv Hy.2.1 rfl) rfl (zroom Hy.2.2 ⟨by decide, by decide⟩) rfl (by decide +kernel) ⟨Nat.zero_le _, Nat.zero_le _⟩ ?_
        obtain ⟨hg55, h⟩ := zgd_inv h
        cases h
        exact zret_z Hy.1 Hy.2.2 hg55 hE (by decide +kernel)
  · replace h := zite_t h hb60
    refine zblq Hy.1 Hy.2.1 [(.aload 0, 1)] (S' := (83, [(0, .inr (.inr (some (12, 0))))], [.inr (.inr (some (12, 0)))], zfR (rs M 12 0 36 t1))) (b := true) (by decide +kernel) rfl rfl ?_
    obtain ⟨r58, M58, hc58, h⟩ := zbd_inv h
    refine zcallV Hy.1 (as := []) (st := []) (m12_fails_met (zOK_G Hy.1) Hy.2.1 hc58) cw12_316 m12_fails_in m12_fails_se (by decide) (zhlv Hy.2.1 rfl) rfl (zroom Hy.2.2 ⟨by decide, by decide⟩) rfl (by decide +kernel) ⟨Nat.zero_le _, Nat.zero_le _⟩ ?_
    obtain ⟨hg59, h⟩ := zgd_inv h
    cases h
    exact zret_z Hy.1 Hy.2.2 hg59 hE (by decide +kernel)
def m12_isRead  (M : rM) : Option (Int32 × rM) := zbv (m12_nextToken (rs (rs M 12 0 31 (0 : Int32)) 12 0 38 (0 : Int32))) (fun M1 => zbd (m12_isWord (6476969 : Int64) M1) (fun r2 M2 => (if r2 = 0 then zbd (m12_isWord (267347 : Int64) M2) (fun r3 M3 => (if r3 = 0 then zbd (m12_isWord (259565 : Int64) M3) (fun r4 M4 => (if r4 = 0 then zbd (m12_isWord (1905275 : Int64) M4) (fun r5 M5 => (if r5 = 0 then m12_isRead_72 (0 : Int32) M5 else m12_isRead_72 (4 : Int32) M5)) else m12_isRead_72 (3 : Int32) M4)) else m12_isRead_72 (2 : Int32) M3)) else m12_isRead_72 (1 : Int32) M2)))
theorem m12_isRead_ok {X : zX} {G : zG} (Hy : zHy X G q12_isRead zcR 2 44 (some .boolean)) {r : Int32} {M' : rM} (hE : zEnd X G (some (.inl r)) (zfR M'))  (M : rM) (h : m12_isRead M = some (r, M')) : zGo (X, q12_isRead, G) 0 0 (0, [(0, .inr (.inr (some (12, 0))))], [], zfR M) := by
  unfold m12_isRead at h
  refine zblq Hy.1 Hy.2.1 [(.aload 0, 1), (.iconst 0, 1), (.invokeinterface 12 31, 3), (.aload 0, 1), (.iconst 0, 1), (.invokeinterface 12 38, 3), (.aload 0, 1)] (S' := (11, [(0, .inr (.inr (some (12, 0))))], [.inr (.inr (some (12, 0)))], zfR (rs (rs M 12 0 31 (0 : Int32)) 12 0 38 (0 : Int32)))) (b := true) (by decide +kernel) rfl rfl ?_
  obtain ⟨M1, hc1, h⟩ := zbv_inv h
  refine zcallV Hy.1 (as := []) (st := []) (m12_nextToken_met (zOK_G Hy.1) Hy.2.1 hc1) cw12_298 m12_nextToken_in m12_nextToken_se (by decide) (zhlv Hy.2.1 rfl) rfl (zroom Hy.2.2 ⟨by decide, by decide⟩) rfl (by decide +kernel) ⟨Nat.zero_le _, Nat.zero_le _⟩ ?_
  refine zblq Hy.1 Hy.2.1 [(.aload 0, 1), (.aload 0, 1), (.goto_w 6476969, 3)] (S' := (19, [(0, .inr (.inr (some (12, 0))))], [.inr (.inl (6476969 : Int64)), .inr (.inr (some (12, 0))), .inr (.inr (some (12, 0)))], zfR M1)) (b := true) (by decide +kernel) rfl rfl ?_
  obtain ⟨r2, M2, hc2, h⟩ := zbd_inv h
  refine zcallV Hy.1 (as := [.inr (.inl (6476969 : Int64))]) (st := [.inr (.inr (some (12, 0)))]) (m12_isWord_met (zOK_G Hy.1) Hy.2.1 hc2) cw12_303 m12_isWord_in m12_isWord_se (by decide) (zhlv Hy.2.1 rfl) rfl (zroom Hy.2.2 ⟨by decide, by decide⟩) rfl (by decide +kernel) ⟨Nat.zero_le _, Nat.zero_le _⟩ ?_
  refine zif_eq Hy.1 (off := 7) (tgt := 29) (by decide +kernel) (by decide) (fun hb64 => ?_) (fun hb64 => ?_)
  · replace h := zite_t h hb64
    refine zblq Hy.1 Hy.2.1 [(.aload 0, 1), (.goto_w 267347, 3)] (S' := (33, [(0, .inr (.inr (some (12, 0))))], [.inr (.inl (267347 : Int64)), .inr (.inr (some (12, 0))), .inr (.inr (some (12, 0)))], zfR M2)) (b := true) (by decide +kernel) rfl rfl ?_
    obtain ⟨r3, M3, hc3, h⟩ := zbd_inv h
    refine zcallV Hy.1 (as := [.inr (.inl (267347 : Int64))]) (st := [.inr (.inr (some (12, 0)))]) (m12_isWord_met (zOK_G Hy.1) Hy.2.1 hc3) cw12_303 m12_isWord_in m12_isWord_se (by decide) (zhlv Hy.2.1 rfl) rfl (zroom Hy.2.2 ⟨by decide, by decide⟩) rfl (by decide +kernel) ⟨Nat.zero_le _, Nat.zero_le _⟩ ?_
    refine zif_eq Hy.1 (off := 7) (tgt := 43) (by decide +kernel) (by decide) (fun hb63 => ?_) (fun hb63 => ?_)
    · replace h := zite_t h hb63
      refine zblq Hy.1 Hy.2.1 [(.aload 0, 1), (.goto_w 259565, 3)] (S' := (47, [(0, .inr (.inr (some (12, 0))))], [.inr (.inl (259565 : Int64)), .inr (.inr (some (12, 0))), .inr (.inr (some (12, 0)))], zfR M3)) (b := true) (by decide +kernel) rfl rfl ?_
      obtain ⟨r4, M4, hc4, h⟩ := zbd_inv h
      refine zcallV Hy.1 (as := [.inr (.inl (259565 : Int64))]) (st := [.inr (.inr (some (12, 0)))]) (m12_isWord_met (zOK_G Hy.1) Hy.2.1 hc4) cw12_303 m12_isWord_in m12_isWord_se (by decide) (zhlv Hy.2.1 rfl) rfl (zroom Hy.2.2 ⟨by decide, by decide⟩) rfl (by decide +kernel) ⟨Nat.zero_le _, Nat.zero_le _⟩ ?_
      refine zif_eq Hy.1 (off := 7) (tgt := 57) (by decide +kernel) (by decide) (fun hb62 => ?_) (fun hb62 => ?_)
      · replace h := zite_t h hb62
        refine zblq Hy.1 Hy.2.1 [(.aload 0, 1), (.goto_w 1905275, 3)] (S' := (61, [(0, .inr (.inr (some (12, 0))))], [.inr (.inl (1905275 : Int64)), .inr (.inr (some (12, 0))), .inr (.inr (some (12, 0)))], zfR M4)) (b := true) (by decide +kernel) rfl rfl ?_
        obtain ⟨r5, M5, hc5, h⟩ := zbd_inv h
        refine zcallV Hy.1 (as := [.inr (.inl (1905275 : Int64))]) (st := [.inr (.inr (some (12, 0)))]) (m12_isWord_met (zOK_G Hy.1) Hy.2.1 hc5) cw12_303 m12_isWord_in m12_isWord_se (by decide) (zhlv Hy.2.1 rfl) rfl (zroom Hy.2.2 ⟨by decide, by decide⟩) rfl (by decide +kernel) ⟨Nat.zero_le _, Nat.zero_le _⟩ ?_
        refine zif_eq Hy.1 (off := 7) (tgt := 71) (by decide +kernel) (by decide) (fun hb61 => ?_) (fun hb61 => ?_)
        · replace h := zite_t h hb61
          refine zblq Hy.1 Hy.2.1 [(.iconst 0, 1)] (S' := (72, [(0, .inr (.inr (some (12, 0))))], [.inl (0 : Int32), .inr (.inr (some (12, 0)))], zfR M5)) (b := true) (by decide +kernel) rfl rfl ?_
          refine zGo_keep [0] rfl ?_
          exact m12_isRead_72_ok Hy hE (0 : Int32) M5 h
        · replace h := zite_f h hb61
          refine zblq Hy.1 Hy.2.1 [(.iconst 4, 1), (.ldc 72, 3)] (S' := (72, [(0, .inr (.inr (some (12, 0))))], [.inl (4 : Int32), .inr (.inr (some (12, 0)))], zfR M5)) (b := true) (by decide +kernel) rfl rfl ?_
          refine zGo_keep [0] rfl ?_
          exact m12_isRead_72_ok Hy hE (4 : Int32) M5 h
      · replace h := zite_f h hb62
        refine zblq Hy.1 Hy.2.1 [(.iconst 3, 1), (.ldc 72, 3)] (S' := (72, [(0, .inr (.inr (some (12, 0))))], [.inl (3 : Int32), .inr (.inr (some (12, 0)))], zfR M4)) (b := true) (by decide +kernel) rfl rfl ?_
        refine zGo_keep [0] rfl ?_
        exact m12_isRead_72_ok Hy hE (3 : Int32) M4 h
    · replace h := zite_f h hb63
      refine zblq Hy.1 Hy.2.1 [(.iconst 2, 1), (.ldc 72, 3)] (S' := (72, [(0, .inr (.inr (some (12, 0))))], [.inl (2 : Int32), .inr (.inr (some (12, 0)))], zfR M3)) (b := true) (by decide +kernel) rfl rfl ?_
      refine zGo_keep [0] rfl ?_
      exact m12_isRead_72_ok Hy hE (2 : Int32) M3 h
  · replace h := zite_f h hb64
    refine zblq Hy.1 Hy.2.1 [(.iconst 1, 1), (.ldc 72, 3)] (S' := (72, [(0, .inr (.inr (some (12, 0))))], [.inl (1 : Int32), .inr (.inr (some (12, 0)))], zfR M2)) (b := true) (by decide +kernel) rfl rfl ?_
    refine zGo_keep [0] rfl ?_
    exact m12_isRead_72_ok Hy hE (1 : Int32) M2 h
theorem m12_isRead_met {l : Launch} {G : zG} (hG : zGok G) (hcn : zgcn G = zcR)  {M : rM} {r : Int32} {M' : rM} (h : m12_isRead M = some (r, M')) : zMet l G yX12_isRead cX12_isRead 2 (some .boolean) 2 44 [.inr (.inr (some (12, 0)))] (zfR M) (some (.inl r)) (zfR M') :=
  zMet_of hG tbX12_ok rfl (by decide +kernel) (Nat.le_of_ble_eq_true rfl) (fun X _ Z hA hE => m12_isRead_ok ⟨Z, hcn, hA⟩ hE M h)
abbrev q12_fault : ByteArray × Nat × String × zT := (cX12_fault, 1, RX12, tbX12)
def m12_fault  (M : rM) : Option (Int32 × rM) := zbd (m12_isRead M) (fun r1 M1 => (if r1 = 0 then some (rg M1 12 0 30, M1) else some ((-1 : Int32), M1)))
theorem m12_fault_ok {X : zX} {G : zG} (Hy : zHy X G q12_fault zcR 3 65 (some .int)) {r : Int32} {M' : rM} (hE : zEnd X G (some (.inl r)) (zfR M'))  (M : rM) (h : m12_fault M = some (r, M')) : zGo (X, q12_fault, G) 0 0 (0, [(0, .inr (.inr (some (12, 0))))], [], zfR M) := by
  unfold m12_fault at h
  refine zblq Hy.1 Hy.2.1 [(.aload 0, 1)] (S' := (1, [(0, .inr (.inr (some (12, 0))))], [.inr (.inr (some (12, 0)))], zfR M)) (b := true) (by decide +kernel) rfl rfl ?_
  obtain ⟨r1, M1, hc1, h⟩ := zbd_inv h
  refine zcallV Hy.1 (as := []) (st := []) (m12_isRead_met (zOK_G Hy.1) Hy.2.1 hc1) cw12_339 m12_isRead_in m12_isRead_se (by decide) (zhlv Hy.2.1 rfl) rfl (zroom Hy.2.2 ⟨by decide, by decide⟩) rfl (by decide +kernel) ⟨Nat.zero_le _, Nat.zero_le _⟩ ?_
  refine zif_eq Hy.1 (off := 7) (tgt := 11) (by decide +kernel) (by decide) (fun hb2 => ?_) (fun hb2 => ?_)
  · replace h := zite_t h hb2
    refine zblq Hy.1 Hy.2.1 [(.aload 0, 1), (.multianewarray 12 30, 3)] (S' := (15, [(0, .inr (.inr (some (12, 0))))], [.inl (rg M1 12 0 30)], zfR M1)) (b := true) (by decide +kernel) rfl rfl ?_
    cases h
    exact zret_i Hy.1 Hy.2.2 hE (by decide +kernel)
  · replace h := zite_f h hb2
    refine zblq Hy.1 Hy.2.1 [(.iconst (-1), 1), (.ldc 15, 3)] (S' := (15, [(0, .inr (.inr (some (12, 0))))], [.inl (-1 : Int32)], zfR M1)) (b := true) (by decide +kernel) rfl rfl ?_
    cases h
    exact zret_i Hy.1 Hy.2.2 hE (by decide +kernel)
theorem m12_fault_met {l : Launch} {G : zG} (hG : zGok G) (hcn : zgcn G = zcR)  {M : rM} {r : Int32} {M' : rM} (h : m12_fault M = some (r, M')) : zMet l G yX12_fault cX12_fault 1 (some .int) 3 65 [.inr (.inr (some (12, 0)))] (zfR M) (some (.inl r)) (zfR M') :=
  zMet_of hG tbX12_ok rfl (by decide +kernel) (Nat.le_of_ble_eq_true rfl) (fun X _ Z hA hE => m12_fault_ok ⟨Z, hcn, hA⟩ hE M h)
abbrev q12_ask : ByteArray × Nat × String × zT := (cX12_ask, 2, RX12, tbX12)
def m12_ask_86 : Nat → Int32 → rM → Option (Int32 × rM)
  | 0, _, _ => none
  | n + 1, x1, M => (if (10 : Int32) ≤ x1 then some (rg (rs M 12 0 28 (0 : Int32)) 12 0 41, rs M 12 0 28 (0 : Int32)) else zgd (zin x1 10 && true) ((m12_ask_86 n) (x1 + (1 : Int32)) (rs M 1317 0 (nx x1) (vp_nar .boolean (0 : Int32)))))
theorem m12_ask_86_ok {X : zX} {G : zG} (Hy : zHy X G q12_ask zcR 3 65 (some .int)) {r : Int32} {M' : rM} (hE : zEnd X G (some (.inl r)) (zfR M')) : ∀ (n : Nat) (x1 : Int32) (M : rM), m12_ask_86 n x1 M = some (r, M') → zGo (X, q12_ask, G) 0 0 (86, [(0, .inr (.inr (some (12, 0)))), (1, .inl x1)], [], zfR M) := by
  intro n
  induction n with
  | zero => intro x1 M h; cases h
  | succ n ih =>
    intro x1 M h
    unfold m12_ask_86 at h
    refine zblq Hy.1 Hy.2.1 [(.iload 1, 1), (.iconst 10, 2)] (S' := (89, [(0, .inr (.inr (some (12, 0)))), (1, .inl x1)], [.inl (10 : Int32), .inl x1], zfR M)) (b := true) (by decide +kernel) rfl rfl ?_
    refine zic_ge Hy.1 (off := 16) (tgt := 105) (by decide +kernel) (by decide) (fun hb4 => ?_) (fun hb4 => ?_)
    · replace h := zite_t h hb4
      refine zblq Hy.1 Hy.2.1 [(.aload 0, 1), (.iconst 0, 1), (.invokeinterface 12 28, 3), (.aload 0, 1), (.multianewarray 12 41, 3)] (S' := (114, [(0, .inr (.inr (some (12, 0)))), (1, .inl x1)], [.inl (rg (rs M 12 0 28 (0 : Int32)) 12 0 41)], zfR (rs M 12 0 28 (0 : Int32)))) (b := true) (by decide +kernel) rfl rfl ?_
      cases h
      exact zret_i Hy.1 Hy.2.2 hE (by decide +kernel)
    · replace h := zite_f h hb4
      obtain ⟨hg3, h⟩ := zgd_inv h
      refine zblq Hy.1 Hy.2.1 [(.aload 0, 1), (.getfield 1217, 3), (.iload 1, 1), (.iconst 0, 1), (.bastore, 1), (.iinc 1 1, 3), (.ldc 86, 3)] (S' := (86, [(0, .inr (.inr (some (12, 0)))), (1, .inl (x1 + (1 : Int32)))], [], zfR (rs M 1317 0 (nx x1) (vp_nar .boolean (0 : Int32))))) (b := zin x1 10 && true) (by decide +kernel) rfl hg3 ?_
      refine zGo_keep [0, 1] rfl ?_
      exact ih (x1 + (1 : Int32)) (rs M 1317 0 (nx x1) (vp_nar .boolean (0 : Int32))) h
def m12_ask_67 : Nat → Int32 → rM → Option (Int32 × rM)
  | 0, _, _ => none
  | n + 1, x1, M => (if (11 : Int32) ≤ x1 then m12_ask_86 zfu (0 : Int32) M else zbv (m12_emptySum x1 M) (fun M5 => (m12_ask_67 n) (x1 + (1 : Int32)) M5))
theorem m12_ask_67_ok {X : zX} {G : zG} (Hy : zHy X G q12_ask zcR 3 65 (some .int)) {r : Int32} {M' : rM} (hE : zEnd X G (some (.inl r)) (zfR M')) : ∀ (n : Nat) (x1 : Int32) (M : rM), m12_ask_67 n x1 M = some (r, M') → zGo (X, q12_ask, G) 0 0 (67, [(0, .inr (.inr (some (12, 0)))), (1, .inl x1)], [], zfR M) := by
  intro n
  induction n with
  | zero => intro x1 M h; cases h
  | succ n ih =>
    intro x1 M h
    unfold m12_ask_67 at h
    refine zblq Hy.1 Hy.2.1 [(.iload 1, 1), (.iconst 11, 2)] (S' := (70, [(0, .inr (.inr (some (12, 0)))), (1, .inl x1)], [.inl (11 : Int32), .inl x1], zfR M)) (b := true) (by decide +kernel) rfl rfl ?_
    refine zic_ge Hy.1 (off := 14) (tgt := 84) (by decide +kernel) (by decide) (fun hb6 => ?_) (fun hb6 => ?_)
    · replace h := zite_t h hb6
      refine zblq Hy.1 Hy.2.1 [(.iconst 0, 1), (.istore 1, 1)] (S' := (86, [(0, .inr (.inr (some (12, 0)))), (1, .inl (0 : Int32))], [], zfR M)) (b := true) (by decide +kernel) rfl rfl ?_
      refine zGo_keep [0, 1] rfl ?_
      exact m12_ask_86_ok Hy hE zfu (0 : Int32) M h
    · replace h := zite_f h hb6
      refine zblq Hy.1 Hy.2.1 [(.aload 0, 1), (.iload 1, 1)] (S' := (75, [(0, .inr (.inr (some (12, 0)))), (1, .inl x1)], [.inl x1, .inr (.inr (some (12, 0)))], zfR M)) (b := true) (by decide +kernel) rfl rfl ?_
      obtain ⟨M5, hc5, h⟩ := zbv_inv h
      refine zcallV Hy.1 (as := [.inl x1]) (st := []) (m12_emptySum_met (zOK_G Hy.1) Hy.2.1 hc5) cw12_214 m12_emptySum_in m12_emptySum_se (by decide) (zhlv Hy.2.1 rfl) rfl (zroom Hy.2.2 ⟨by decide, by decide⟩) rfl (by decide +kernel) ⟨Nat.zero_le _, Nat.zero_le _⟩ ?_
      refine zblq Hy.1 Hy.2.1 [(.iinc 1 1, 3), (.ldc 67, 3)] (S' := (67, [(0, .inr (.inr (some (12, 0)))), (1, .inl (x1 + (1 : Int32)))], [], zfR M5)) (b := true) (by decide +kernel) rfl rfl ?_
      refine zGo_keep [0, 1] rfl ?_
      exact ih (x1 + (1 : Int32)) M5 h
def m12_ask_36 : Nat → Int32 → rM → Option (Int32 × rM)
  | 0, _, _ => none
  | n + 1, x1, M => (if (24 : Int32) ≤ x1 then zbd (m12_takeSums M) (fun r2 M2 => m12_ask_67 zfu (0 : Int32) M2) else zgd (zin x1 24 && (zin x1 24 && true)) ((m12_ask_36 n) (x1 + (1 : Int32)) (rs M 1343 0 (nx x1) (rg M 1339 0 (nx x1)))))
theorem m12_ask_36_ok {X : zX} {G : zG} (Hy : zHy X G q12_ask zcR 3 65 (some .int)) {r : Int32} {M' : rM} (hE : zEnd X G (some (.inl r)) (zfR M')) : ∀ (n : Nat) (x1 : Int32) (M : rM), m12_ask_36 n x1 M = some (r, M') → zGo (X, q12_ask, G) 0 0 (36, [(0, .inr (.inr (some (12, 0)))), (1, .inl x1)], [], zfR M) := by
  intro n
  induction n with
  | zero => intro x1 M h; cases h
  | succ n ih =>
    intro x1 M h
    unfold m12_ask_36 at h
    refine zblq Hy.1 Hy.2.1 [(.iload 1, 1), (.iconst 24, 2)] (S' := (39, [(0, .inr (.inr (some (12, 0)))), (1, .inl x1)], [.inl (24 : Int32), .inl x1], zfR M)) (b := true) (by decide +kernel) rfl rfl ?_
    refine zic_ge Hy.1 (off := 21) (tgt := 60) (by decide +kernel) (by decide) (fun hb8 => ?_) (fun hb8 => ?_)
    · replace h := zite_t h hb8
      refine zblq Hy.1 Hy.2.1 [(.aload 0, 1)] (S' := (61, [(0, .inr (.inr (some (12, 0)))), (1, .inl x1)], [.inr (.inr (some (12, 0)))], zfR M)) (b := true) (by decide +kernel) rfl rfl ?_
      obtain ⟨r2, M2, hc2, h⟩ := zbd_inv h
      refine zcallV Hy.1 (as := []) (st := []) (m12_takeSums_met (zOK_G Hy.1) Hy.2.1 hc2) cw12_207 m12_takeSums_in m12_takeSums_se (by decide) (zhlv Hy.2.1 rfl) rfl (zroom Hy.2.2 ⟨by decide, by decide⟩) rfl (by decide +kernel) ⟨Nat.zero_le _, Nat.zero_le _⟩ ?_
      refine zblq Hy.1 Hy.2.1 [(.pop, 1), (.iconst 0, 1), (.istore 1, 1)] (S' := (67, [(0, .inr (.inr (some (12, 0)))), (1, .inl (0 : Int32))], [], zfR M2)) (b := true) (by decide +kernel) rfl rfl ?_
      refine zGo_keep [0, 1] rfl ?_
      exact m12_ask_67_ok Hy hE zfu (0 : Int32) M2 h
    · replace h := zite_f h hb8
      obtain ⟨hg7, h⟩ := zgd_inv h
      refine zblq Hy.1 Hy.2.1 [(.aload 0, 1), (.getfield 1243, 3), (.iload 1, 1), (.aload 0, 1), (.getfield 1239, 3), (.iload 1, 1), (.iaload, 1), (.iastore, 1), (.iinc 1 1, 3), (.ldc 36, 3)] (S' := (36, [(0, .inr (.inr (some (12, 0)))), (1, .inl (x1 + (1 : Int32)))], [], zfR (rs M 1343 0 (nx x1) (rg M 1339 0 (nx x1))))) (b := zin x1 24 && (zin x1 24 && true)) (by decide +kernel) rfl hg7 ?_
      refine zGo_keep [0, 1] rfl ?_
      exact ih (x1 + (1 : Int32)) (rs M 1343 0 (nx x1) (rg M 1339 0 (nx x1))) h
def m12_ask  (M : rM) : Option (Int32 × rM) := zbd (m12_isRead M) (fun r1 M1 => (if r1 = 0 then some ((-4 : Int32), M1) else m12_ask_36 zfu (0 : Int32) (rs (rs (rs M1 12 0 40 (rg M1 12 0 36)) 12 0 41 (rg (rs M1 12 0 40 (rg M1 12 0 36)) 12 0 37)) 12 0 42 (rg (rs (rs M1 12 0 40 (rg M1 12 0 36)) 12 0 41 (rg (rs M1 12 0 40 (rg M1 12 0 36)) 12 0 37)) 12 0 38))))
theorem m12_ask_ok {X : zX} {G : zG} (Hy : zHy X G q12_ask zcR 3 65 (some .int)) {r : Int32} {M' : rM} (hE : zEnd X G (some (.inl r)) (zfR M'))  (M : rM) (h : m12_ask M = some (r, M')) : zGo (X, q12_ask, G) 0 0 (0, [(0, .inr (.inr (some (12, 0))))], [], zfR M) := by
  unfold m12_ask at h
  refine zblq Hy.1 Hy.2.1 [(.aload 0, 1)] (S' := (1, [(0, .inr (.inr (some (12, 0))))], [.inr (.inr (some (12, 0)))], zfR M)) (b := true) (by decide +kernel) rfl rfl ?_
  obtain ⟨r1, M1, hc1, h⟩ := zbd_inv h
  refine zcallV Hy.1 (as := []) (st := []) (m12_isRead_met (zOK_G Hy.1) Hy.2.1 hc1) cw12_339 m12_isRead_in m12_isRead_se (by decide) (zhlv Hy.2.1 rfl) rfl (zroom Hy.2.2 ⟨by decide, by decide⟩) rfl (by decide +kernel) ⟨Nat.zero_le _, Nat.zero_le _⟩ ?_
  refine zif_ne Hy.1 (off := 6) (tgt := 10) (by decide +kernel) (by decide) (fun hb9 => ?_) (fun hb9 => ?_)
  · replace h := zite_f h hb9
    refine zblq Hy.1 Hy.2.1 [(.aload 0, 1), (.aload 0, 1), (.multianewarray 12 36, 3), (.invokeinterface 12 40, 3), (.aload 0, 1), (.aload 0, 1), (.multianewarray 12 37, 3), (.invokeinterface 12 41, 3), (.aload 0, 1), (.aload 0, 1), (.multianewarray 12 38, 3), (.invokeinterface 12 42, 3), (.iconst 0, 1), (.istore 1, 1)] (S' := (36, [(0, .inr (.inr (some (12, 0)))), (1, .inl (0 : Int32))], [], zfR (rs (rs (rs M1 12 0 40 (rg M1 12 0 36)) 12 0 41 (rg (rs M1 12 0 40 (rg M1 12 0 36)) 12 0 37)) 12 0 42 (rg (rs (rs M1 12 0 40 (rg M1 12 0 36)) 12 0 41 (rg (rs M1 12 0 40 (rg M1 12 0 36)) 12 0 37)) 12 0 38)))) (b := true) (by decide +kernel) rfl rfl ?_
    refine zGo_keep [0, 1] rfl ?_
    exact m12_ask_36_ok Hy hE zfu (0 : Int32) (rs (rs (rs M1 12 0 40 (rg M1 12 0 36)) 12 0 41 (rg (rs M1 12 0 40 (rg M1 12 0 36)) 12 0 37)) 12 0 42 (rg (rs (rs M1 12 0 40 (rg M1 12 0 36)) 12 0 41 (rg (rs M1 12 0 40 (rg M1 12 0 36)) 12 0 37)) 12 0 38)) h
  · replace h := zite_t h hb9
    refine zblq Hy.1 Hy.2.1 [(.iconst (-4), 2)] (S' := (9, [(0, .inr (.inr (some (12, 0))))], [.inl (-4 : Int32)], zfR M1)) (b := true) (by decide +kernel) rfl rfl ?_
    cases h
    exact zret_i Hy.1 Hy.2.2 hE (by decide +kernel)
theorem m12_ask_met {l : Launch} {G : zG} (hG : zGok G) (hcn : zgcn G = zcR)  {M : rM} {r : Int32} {M' : rM} (h : m12_ask M = some (r, M')) : zMet l G yX12_ask cX12_ask 2 (some .int) 3 65 [.inr (.inr (some (12, 0)))] (zfR M) (some (.inl r)) (zfR M') :=
  zMet_of hG tbX12_ok rfl (by decide +kernel) (Nat.le_of_ble_eq_true rfl) (fun X _ Z hA hE => m12_ask_ok ⟨Z, hcn, hA⟩ hE M h)
abbrev q12_loud : ByteArray × Nat × String × zT := (cX12_loud, 5, RX12, tbX12)
def m12_loud (x1 : Int32) (x2 : Int32) (x3 : Int32) (M : rM) : Option (Int32 × rM) := zbd (m12_isBox x1 M) (fun r1 M1 => (if r1 = 0 then some ((-2 : Int32), M1) else zbd (m12_in x2 (0 : Int32) (23 : Int32) M1) (fun r2 M2 => (if r2 = 0 then some ((-3 : Int32), M2) else zbd (m12_in x3 (0 : Int32) (16 : Int32) M2) (fun r3 M3 => (if r3 = 0 then some ((-3 : Int32), M3) else zgd (zin (((24 : Int32) * x1) + x2) 240 && (zin (((24 : Int32) * x1) + x2) 240 && true)) (some (rg M3 1344 0 (nx (((24 : Int32) * x1) + x2)), rs M3 1344 0 (nx (((24 : Int32) * x1) + x2)) x3))))))))
theorem m12_loud_ok {X : zX} {G : zG} (Hy : zHy X G q12_loud zcR 2 43 (some .int)) {r : Int32} {M' : rM} (hE : zEnd X G (some (.inl r)) (zfR M')) (x1 : Int32) (x2 : Int32) (x3 : Int32) (M : rM) (h : m12_loud x1 x2 x3 M = some (r, M')) : zGo (X, q12_loud, G) 0 0 (0, [(0, .inr (.inr (some (12, 0)))), (1, .inl x1), (2, .inl x2), (3, .inl x3)], [], zfR M) := by
  unfold m12_loud at h
  refine zblq Hy.1 Hy.2.1 [(.aload 0, 1), (.iload 1, 1)] (S' := (2, [(0, .inr (.inr (some (12, 0)))), (1, .inl x1), (2, .inl x2), (3, .inl x3)], [.inl x1, .inr (.inr (some (12, 0)))], zfR M)) (b := true) (by decide +kernel) rfl rfl ?_
  obtain ⟨r1, M1, hc1, h⟩ := zbd_inv h
  refine zcallV Hy.1 (as := [.inl x1]) (st := []) (m12_isBox_met (zOK_G Hy.1) Hy.2.1 hc1) cw12_175 m12_isBox_in m12_isBox_se (by decide) (zhlv Hy.2.1 rfl) rfl (zroom Hy.2.2 ⟨by decide, by decide⟩) rfl (by decide +kernel) ⟨Nat.zero_le _, Nat.zero_le _⟩ ?_
  refine zif_ne Hy.1 (off := 6) (tgt := 11) (by decide +kernel) (by decide) (fun hb7 => ?_) (fun hb7 => ?_)
  · replace h := zite_f h hb7
    refine zblq Hy.1 Hy.2.1 [(.iload 2, 1), (.iconst 0, 1), (.iconst 23, 2)] (S' := (15, [(0, .inr (.inr (some (12, 0)))), (1, .inl x1), (2, .inl x2), (3, .inl x3)], [.inl (23 : Int32), .inl (0 : Int32), .inl x2], zfR M1)) (b := true) (by decide +kernel) rfl rfl ?_
    obtain ⟨r2, M2, hc2, h⟩ := zbd_inv h
    refine zcallS Hy.1 (as := [.inl x2, .inl (0 : Int32), .inl (23 : Int32)]) (st := []) (m12_in_met (zOK_G Hy.1) Hy.2.1 hc2) cw12_171 m12_in_in rfl (zroom Hy.2.2 ⟨by decide, by decide⟩) rfl (by decide +kernel) ⟨Nat.zero_le _, Nat.zero_le _⟩ ?_
    refine zif_eq Hy.1 (off := 13) (tgt := 31) (by decide +kernel) (by decide) (fun hb6 => ?_) (fun hb6 => ?_)
    · replace h := zite_t h hb6
      refine zblq Hy.1 Hy.2.1 [(.iconst (-3), 2)] (S' := (33, [(0, .inr (.inr (some (12, 0)))), (1, .inl x1), (2, .inl x2), (3, .inl x3)], [.inl (-3 : Int32)], zfR M2)) (b := true) (by decide +kernel) rfl rfl ?_
      cases h
      exact zret_i Hy.1 Hy.2.2 hE (by decide +kernel)
    · replace h := zite_f h hb6
      refine zblq Hy.1 Hy.2.1 [(.iload 3, 1), (.iconst 0, 1), (.iconst 16, 2)] (S' := (25, [(0, .inr (.inr (some (12, 0)))), (1, .inl x1), (2, .inl x2), (3, .inl x3)], [.inl (16 : Int32), .inl (0 : Int32), .inl x3], zfR M2)) (b := true) (by decide +kernel) rfl rfl ?_
      obtain ⟨r3, M3, hc3, h⟩ := zbd_inv h
      refine zcallS Hy.1 (as := [.inl x3, .inl (0 : Int32), .inl (16 : Int32)]) (st := []) (m12_in_met (zOK_G Hy.1) Hy.2.1 hc3) cw12_171 m12_in_in rfl (zroom Hy.2.2 ⟨by decide, by decide⟩) rfl (by decide +kernel) ⟨Nat.zero_le _, Nat.zero_le _⟩ ?_
      refine zif_ne Hy.1 (off := 6) (tgt := 34) (by decide +kernel) (by decide) (fun hb5 => ?_) (fun hb5 => ?_)
      · replace h := zite_f h hb5
        obtain ⟨hg4, h⟩ := zgd_inv h
        refine zblq Hy.1 Hy.2.1 [(.aload 0, 1), (.getfield 1244, 3), (.iconst 24, 2), (.iload 1, 1), (.imul, 1), (.iload 2, 1), (.iadd, 1), (.iaload, 1), (.istore 4, 2), (.aload 0, 1), (.getfield 1244, 3), (.iconst 24, 2), (.iload 1, 1), (.imul, 1), (.iload 2, 1), (.iadd, 1), (.iload 3, 1), (.iastore, 1), (.iload 4, 2)] (S' := (61, [(0, .inr (.inr (some (12, 0)))), (1, .inl x1), (2, .inl x2), (3, .inl x3), (4, .inl (rg M3 1344 0 (nx (((24 : Int32) * x1) + x2))))], [.inl (rg M3 1344 0 (nx (((24 : Int32) * x1) + x2)))], zfR (rs M3 1344 0 (nx (((24 : Int32) * x1) + x2)) x3))) (b := zin (((24 : Int32) * x1) + x2) 240 && (zin (((24 : Int32) * x1) + x2) 240 && true)) (by decide +kernel) rfl hg4 ?_
        cases h
        exact zret_i Hy.1 Hy.2.2 hE (by decide +kernel)
      · replace h := zite_t h hb5
        refine zblq Hy.1 Hy.2.1 [(.iconst (-3), 2)] (S' := (33, [(0, .inr (.inr (some (12, 0)))), (1, .inl x1), (2, .inl x2), (3, .inl x3)], [.inl (-3 : Int32)], zfR M3)) (b := true) (by decide +kernel) rfl rfl ?_
        cases h
        exact zret_i Hy.1 Hy.2.2 hE (by decide +kernel)
  · replace h := zite_t h hb7
    refine zblq Hy.1 Hy.2.1 [(.iconst (-2), 2)] (S' := (10, [(0, .inr (.inr (some (12, 0)))), (1, .inl x1), (2, .inl x2), (3, .inl x3)], [.inl (-2 : Int32)], zfR M1)) (b := true) (by decide +kernel) rfl rfl ?_
    cases h
    exact zret_i Hy.1 Hy.2.2 hE (by decide +kernel)
theorem m12_loud_met {l : Launch} {G : zG} (hG : zGok G) (hcn : zgcn G = zcR) {x1 : Int32} {x2 : Int32} {x3 : Int32} {M : rM} {r : Int32} {M' : rM} (h : m12_loud x1 x2 x3 M = some (r, M')) : zMet l G yX12_loud cX12_loud 5 (some .int) 2 43 [.inr (.inr (some (12, 0))), .inl x1, .inl x2, .inl x3] (zfR M) (some (.inl r)) (zfR M') :=
  zMet_of hG tbX12_ok rfl (by decide +kernel) (Nat.le_of_ble_eq_true rfl) (fun X _ Z hA hE => m12_loud_ok ⟨Z, hcn, hA⟩ hE x1 x2 x3 M h)
abbrev q12_lies : ByteArray × Nat × String × zT := (cX12_lies, 4, RX12, tbX12)
def m12_lies (x1 : Int32) (x2 : Int32) (M : rM) : Option (Int32 × rM) := zbd (m12_isBox x1 M) (fun r1 M1 => (if r1 = 0 then some ((-2 : Int32), M1) else zbd (m12_in x2 (0 : Int32) (16 : Int32) M1) (fun r2 M2 => (if r2 = 0 then some ((-3 : Int32), M2) else zgd (zin x1 10 && (zin x1 10 && true)) (some (rg M2 1345 0 (nx x1), rs M2 1345 0 (nx x1) x2))))))
theorem m12_lies_ok {X : zX} {G : zG} (Hy : zHy X G q12_lies zcR 2 43 (some .int)) {r : Int32} {M' : rM} (hE : zEnd X G (some (.inl r)) (zfR M')) (x1 : Int32) (x2 : Int32) (M : rM) (h : m12_lies x1 x2 M = some (r, M')) : zGo (X, q12_lies, G) 0 0 (0, [(0, .inr (.inr (some (12, 0)))), (1, .inl x1), (2, .inl x2)], [], zfR M) := by
  unfold m12_lies at h
  refine zblq Hy.1 Hy.2.1 [(.aload 0, 1), (.iload 1, 1)] (S' := (2, [(0, .inr (.inr (some (12, 0)))), (1, .inl x1), (2, .inl x2)], [.inl x1, .inr (.inr (some (12, 0)))], zfR M)) (b := true) (by decide +kernel) rfl rfl ?_
  obtain ⟨r1, M1, hc1, h⟩ := zbd_inv h
  refine zcallV Hy.1 (as := [.inl x1]) (st := []) (m12_isBox_met (zOK_G Hy.1) Hy.2.1 hc1) cw12_175 m12_isBox_in m12_isBox_se (by decide) (zhlv Hy.2.1 rfl) rfl (zroom Hy.2.2 ⟨by decide, by decide⟩) rfl (by decide +kernel) ⟨Nat.zero_le _, Nat.zero_le _⟩ ?_
  refine zif_ne Hy.1 (off := 6) (tgt := 11) (by decide +kernel) (by decide) (fun hb5 => ?_) (fun hb5 => ?_)
  · replace h := zite_f h hb5
    refine zblq Hy.1 Hy.2.1 [(.iload 2, 1), (.iconst 0, 1), (.iconst 16, 2)] (S' := (15, [(0, .inr (.inr (some (12, 0)))), (1, .inl x1), (2, .inl x2)], [.inl (16 : Int32), .inl (0 : Int32), .inl x2], zfR M1)) (b := true) (by decide +kernel) rfl rfl ?_
    obtain ⟨r2, M2, hc2, h⟩ := zbd_inv h
    refine zcallS Hy.1 (as := [.inl x2, .inl (0 : Int32), .inl (16 : Int32)]) (st := []) (m12_in_met (zOK_G Hy.1) Hy.2.1 hc2) cw12_171 m12_in_in rfl (zroom Hy.2.2 ⟨by decide, by decide⟩) rfl (by decide +kernel) ⟨Nat.zero_le _, Nat.zero_le _⟩ ?_
    refine zif_ne Hy.1 (off := 6) (tgt := 24) (by decide +kernel) (by decide) (fun hb4 => ?_) (fun hb4 => ?_)
    · replace h := zite_f h hb4
      obtain ⟨hg3, h⟩ := zgd_inv h
      refine zblq Hy.1 Hy.2.1 [(.aload 0, 1), (.getfield 1245, 3), (.iload 1, 1), (.iaload, 1), (.istore 3, 1), (.aload 0, 1), (.getfield 1245, 3), (.iload 1, 1), (.iload 2, 1), (.iastore, 1), (.iload 3, 1)] (S' := (39, [(0, .inr (.inr (some (12, 0)))), (1, .inl x1), (2, .inl x2), (3, .inl (rg M2 1345 0 (nx x1)))], [.inl (rg M2 1345 0 (nx x1))], zfR (rs M2 1345 0 (nx x1) x2))) (b := zin x1 10 && (zin x1 10 && true)) (by decide +kernel) rfl hg3 ?_
      cases h
      exact zret_i Hy.1 Hy.2.2 hE (by decide +kernel)
    · replace h := zite_t h hb4
      refine zblq Hy.1 Hy.2.1 [(.iconst (-3), 2)] (S' := (23, [(0, .inr (.inr (some (12, 0)))), (1, .inl x1), (2, .inl x2)], [.inl (-3 : Int32)], zfR M2)) (b := true) (by decide +kernel) rfl rfl ?_
      cases h
      exact zret_i Hy.1 Hy.2.2 hE (by decide +kernel)
  · replace h := zite_t h hb5
    refine zblq Hy.1 Hy.2.1 [(.iconst (-2), 2)] (S' := (10, [(0, .inr (.inr (some (12, 0)))), (1, .inl x1), (2, .inl x2)], [.inl (-2 : Int32)], zfR M1)) (b := true) (by decide +kernel) rfl rfl ?_
    cases h
    exact zret_i Hy.1 Hy.2.2 hE (by decide +kernel)
theorem m12_lies_met {l : Launch} {G : zG} (hG : zGok G) (hcn : zgcn G = zcR) {x1 : Int32} {x2 : Int32} {M : rM} {r : Int32} {M' : rM} (h : m12_lies x1 x2 M = some (r, M')) : zMet l G yX12_lies cX12_lies 4 (some .int) 2 43 [.inr (.inr (some (12, 0))), .inl x1, .inl x2] (zfR M) (some (.inl r)) (zfR M') :=
  zMet_of hG tbX12_ok rfl (by decide +kernel) (Nat.le_of_ble_eq_true rfl) (fun X _ Z hA hE => m12_lies_ok ⟨Z, hcn, hA⟩ hE x1 x2 M h)
abbrev q12_common : ByteArray × Nat × String × zT := (cX12_common, 5, RX12, tbX12)
def m12_common_4 : Nat → Int32 → Int32 → rM → Option (Int32 × rM)
  | 0, _, _, _ => none
  | n + 1, x2, x3, M => (if x3 = 0 then some (x2, M) else zgd (znz x3 && true) ((m12_common_4 n) x3 (zrem x2 x3) M))
theorem m12_common_4_ok {X : zX} {G : zG} (Hy : zHy X G q12_common zcR 0 0 (some .int)) {r : Int32} {M' : rM} (hE : zEnd X G (some (.inl r)) (zfR M')) : ∀ (n : Nat) (x2 : Int32) (x3 : Int32) (M : rM), m12_common_4 n x2 x3 M = some (r, M') → zGo (X, q12_common, G) 0 0 (4, [(2, .inl x2), (3, .inl x3)], [], zfR M) := by
  intro n
  induction n with
  | zero => intro x2 x3 M h; cases h
  | succ n ih =>
    intro x2 x3 M h
    unfold m12_common_4 at h
    refine zblq Hy.1 Hy.2.1 [(.iload 3, 1)] (S' := (5, [(2, .inl x2), (3, .inl x3)], [.inl x3], zfR M)) (b := true) (by decide +kernel) rfl rfl ?_
    refine zif_eq Hy.1 (off := 16) (tgt := 21) (by decide +kernel) (by decide) (fun hb2 => ?_) (fun hb2 => ?_)
    · replace h := zite_t h hb2
      refine zblq Hy.1 Hy.2.1 [(.iload 2, 1)] (S' := (22, [(2, .inl x2), (3, .inl x3)], [.inl x2], zfR M)) (b := true) (by decide +kernel) rfl rfl ?_
      cases h
      exact zret_i Hy.1 Hy.2.2 hE (by decide +kernel)
    · replace h := zite_f h hb2
      obtain ⟨hg1, h⟩ := zgd_inv h
      refine zblq Hy.1 Hy.2.1 [(.iload 2, 1), (.iload 3, 1), (.irem, 1), (.istore 4, 2), (.iload 3, 1), (.istore 2, 1), (.iload 4, 2), (.istore 3, 1), (.ldc 4, 3)] (S' := (4, [(2, .inl x3), (3, .inl (zrem x2 x3)), (4, .inl (zrem x2 x3))], [], zfR M)) (b := znz x3 && true) (by decide +kernel) rfl hg1 ?_
      refine zGo_keep [2, 3] rfl ?_
      exact ih x3 (zrem x2 x3) M h
def m12_common (x0 : Int32) (x1 : Int32) (M : rM) : Option (Int32 × rM) := m12_common_4 zfu x0 x1 M
theorem m12_common_ok {X : zX} {G : zG} (Hy : zHy X G q12_common zcR 0 0 (some .int)) {r : Int32} {M' : rM} (hE : zEnd X G (some (.inl r)) (zfR M')) (x0 : Int32) (x1 : Int32) (M : rM) (h : m12_common x0 x1 M = some (r, M')) : zGo (X, q12_common, G) 0 0 (0, [(0, .inl x0), (1, .inl x1)], [], zfR M) := by
  unfold m12_common at h
  refine zblq Hy.1 Hy.2.1 [(.iload 0, 1), (.istore 2, 1), (.iload 1, 1), (.istore 3, 1)] (S' := (4, [(0, .inl x0), (1, .inl x1), (2, .inl x0), (3, .inl x1)], [], zfR M)) (b := true) (by decide +kernel) rfl rfl ?_
  refine zGo_keep [2, 3] rfl ?_
  exact m12_common_4_ok Hy hE zfu x0 x1 M h
theorem m12_common_met {l : Launch} {G : zG} (hG : zGok G) (hcn : zgcn G = zcR) {x0 : Int32} {x1 : Int32} {M : rM} {r : Int32} {M' : rM} (h : m12_common x0 x1 M = some (r, M')) : zMet l G yX12_common cX12_common 5 (some .int) 0 0 [.inl x0, .inl x1] (zfR M) (some (.inl r)) (zfR M') :=
  zMet_of hG tbX12_ok rfl (by decide +kernel) (Nat.le_of_ble_eq_true rfl) (fun X _ Z hA hE => m12_common_ok ⟨Z, hcn, hA⟩ hE x0 x1 M h)
