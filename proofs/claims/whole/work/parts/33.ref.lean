abbrev q12_queueSums : ByteArray × Nat × String × zT := (cX12_queueSums, 7, RX12, tbX12)
def m12_queueSums_213 (k39 : Int32 → Int32 → Int32 → rM → Option rM) (x1 : Int32) (x2 : Int32) (x3 : Int32) (M : rM) : Option rM := k39 x1 x2 (x3 + (1 : Int32)) M
theorem m12_queueSums_213_ok {X : zX} {G : zG} (Hy : zHy X G q12_queueSums zcR 1 21 (none)) {M' : rM} (hE : zEnd X G (none) (zfR M')) {k39 : Int32 → Int32 → Int32 → rM → Option rM} (hk39 : ∀ (x1 : Int32) (x2 : Int32) (x3 : Int32) (M : rM), k39 x1 x2 x3 M = some M' → zGo (X, q12_queueSums, G) 0 0 (39, [(0, .inr (.inr (some (12, 0)))), (1, .inl x1), (2, .inl x2), (3, .inl x3)], [], zfR M)) (x1 : Int32) (x2 : Int32) (x3 : Int32) (M : rM) (h : m12_queueSums_213 k39 x1 x2 x3 M = some M') : zGo (X, q12_queueSums, G) 0 0 (213, [(0, .inr (.inr (some (12, 0)))), (1, .inl x1), (2, .inl x2), (3, .inl x3)], [], zfR M) := by
  unfold m12_queueSums_213 at h
  refine zblq Hy.1 Hy.2.1 [(.iinc 3 1, 3), (.ldc 39, 3)] (S' := (39, [(0, .inr (.inr (some (12, 0)))), (1, .inl x1), (2, .inl x2), (3, .inl (x3 + (1 : Int32)))], [], zfR M)) (b := true) (by decide +kernel) rfl rfl ?_
  refine zGo_keep [0, 1, 2, 3] rfl ?_
  exact hk39 x1 x2 (x3 + (1 : Int32)) M h
def m12_queueSums_161 (k39 : Int32 → Int32 → Int32 → rM → Option rM) : Nat → Int32 → Int32 → Int32 → Int32 → Int32 → rM → Option rM
  | 0, _, _, _, _, _, _ => none
  | n + 1, x1, x2, x3, x5, x6, M => (if (5 : Int32) ≤ x6 then zgd (zin x3 10 && (zin x3 10 && (zin x3 10 && true))) (m12_queueSums_213 k39 x1 x2 x3 (rs (rs M 1314 0 (nx x3) ((rg M 1314 0 (nx x3)) + (1 : Int32))) 1317 0 (nx x3) (vp_nar .boolean (1 : Int32)))) else zgd (zin (((5 : Int32) * x3) + x6) 55 && (zin ((x5 + (1 : Int32)) + x6) 240 && true)) ((m12_queueSums_161 k39 n) x1 x2 x3 x5 (x6 + (1 : Int32)) (rs M 1315 0 (nx ((x5 + (1 : Int32)) + x6)) (rg M 1316 0 (nx (((5 : Int32) * x3) + x6))))))
theorem m12_queueSums_161_ok {X : zX} {G : zG} (Hy : zHy X G q12_queueSums zcR 1 21 (none)) {M' : rM} (hE : zEnd X G (none) (zfR M')) {k39 : Int32 → Int32 → Int32 → rM → Option rM} (hk39 : ∀ (x1 : Int32) (x2 : Int32) (x3 : Int32) (M : rM), k39 x1 x2 x3 M = some M' → zGo (X, q12_queueSums, G) 0 0 (39, [(0, .inr (.inr (some (12, 0)))), (1, .inl x1), (2, .inl x2), (3, .inl x3)], [], zfR M)) : ∀ (n : Nat) (x1 : Int32) (x2 : Int32) (x3 : Int32) (x5 : Int32) (x6 : Int32) (M : rM), m12_queueSums_161 k39 n x1 x2 x3 x5 x6 M = some M' → zGo (X, q12_queueSums, G) 0 0 (161, [(0, .inr (.inr (some (12, 0)))), (1, .inl x1), (2, .inl x2), (3, .inl x3), (5, .inl x5), (6, .inl x6)], [], zfR M) := by
  intro n
  induction n with
  | zero => intro x1 x2 x3 x5 x6 M h; cases h
  | succ n ih =>
    intro x1 x2 x3 x5 x6 M h
    unfold m12_queueSums_161 at h
    refine zblq Hy.1 Hy.2.1 [(.iload 6, 2), (.iconst 5, 1)] (S' := (164, [(0, .inr (.inr (some (12, 0)))), (1, .inl x1), (2, .inl x2), (3, .inl x3), (5, .inl x5), (6, .inl x6)], [.inl (5 : Int32), .inl x6], zfR M)) (b := true) (by decide +kernel) rfl rfl ?_
    refine zic_ge Hy.1 (off := 32) (tgt := 196) (by decide +kernel) (by decide) (fun hb6 => ?_) (fun hb6 => ?_)
    · replace h := zite_t h hb6
      obtain ⟨hg4, h⟩ := zgd_inv h
      refine zblq Hy.1 Hy.2.1 [(.aload 0, 1), (.getfield 1214, 3), (.iload 3, 1), (.dup2, 1), (.iaload, 1), (.iconst 1, 1), (.iadd, 1), (.iastore, 1), (.aload 0, 1), (.getfield 1217, 3), (.iload 3, 1), (.iconst 1, 1), (.bastore, 1)] (S' := (213, [(0, .inr (.inr (some (12, 0)))), (1, .inl x1), (2, .inl x2), (3, .inl x3), (5, .inl x5), (6, .inl x6)], [], zfR (rs (rs M 1314 0 (nx x3) ((rg M 1314 0 (nx x3)) + (1 : Int32))) 1317 0 (nx x3) (vp_nar .boolean (1 : Int32))))) (b := zin x3 10 && (zin x3 10 && (zin x3 10 && true))) (by decide +kernel) rfl hg4 ?_
      refine zGo_keep [0, 1, 2, 3] rfl ?_
      exact m12_queueSums_213_ok Hy hE hk39 x1 x2 x3 (rs (rs M 1314 0 (nx x3) ((rg M 1314 0 (nx x3)) + (1 : Int32))) 1317 0 (nx x3) (vp_nar .boolean (1 : Int32))) h
    · replace h := zite_f h hb6
      obtain ⟨hg5, h⟩ := zgd_inv h
      refine zblq Hy.1 Hy.2.1 [(.aload 0, 1), (.getfield 1215, 3), (.iload 5, 2), (.iconst 1, 1), (.iadd, 1), (.iload 6, 2), (.iadd, 1), (.aload 0, 1), (.getfield 1216, 3), (.iconst 5, 1), (.iload 3, 1), (.imul, 1), (.iload 6, 2), (.iadd, 1), (.iaload, 1), (.iastore, 1), (.iinc 6 1, 3), (.ldc 161, 3)] (S' := (161, [(0, .inr (.inr (some (12, 0)))), (1, .inl x1), (2, .inl x2), (3, .inl x3), (5, .inl x5), (6, .inl (x6 + (1 : Int32)))], [], zfR (rs M 1315 0 (nx ((x5 + (1 : Int32)) + x6)) (rg M 1316 0 (nx (((5 : Int32) * x3) + x6)))))) (b := zin (((5 : Int32) * x3) + x6) 55 && (zin ((x5 + (1 : Int32)) + x6) 240 && true)) (by decide +kernel) rfl hg5 ?_
      refine zGo_keep [0, 1, 2, 3, 5, 6] rfl ?_
      exact ih x1 x2 x3 x5 (x6 + (1 : Int32)) (rs M 1315 0 (nx ((x5 + (1 : Int32)) + x6)) (rg M 1316 0 (nx (((5 : Int32) * x3) + x6)))) h
def m12_queueSums_103 (k39 : Int32 → Int32 → Int32 → rM → Option rM) (x1 : Int32) (x2 : Int32) (x3 : Int32) (t0 : Int32) (M : rM) : Option rM := (if t0 = 0 then m12_queueSums_213 k39 x1 x2 x3 M else zgd (zin (4 : Int32) 7 && (zin x3 10 && true)) ((if x1 < ((rg M 12 0 18) + ((rg M 1312 0 (nx (4 : Int32))) * (x2 - (rg M 1308 0 (nx x3))))) then m12_queueSums_213 k39 x1 x2 x3 M else zgd (zin x3 10 && (zin (((24 : Int32) * x3) + ((6 : Int32) * (rg M 1314 0 (nx x3)))) 240 && true)) (m12_queueSums_161 k39 zfu x1 x2 x3 (((24 : Int32) * x3) + ((6 : Int32) * (rg M 1314 0 (nx x3)))) (0 : Int32) (rs M 1315 0 (nx (((24 : Int32) * x3) + ((6 : Int32) * (rg M 1314 0 (nx x3))))) (1 : Int32))))))
theorem m12_queueSums_103_ok {X : zX} {G : zG} (Hy : zHy X G q12_queueSums zcR 1 21 (none)) {M' : rM} (hE : zEnd X G (none) (zfR M')) {k39 : Int32 → Int32 → Int32 → rM → Option rM} (hk39 : ∀ (x1 : Int32) (x2 : Int32) (x3 : Int32) (M : rM), k39 x1 x2 x3 M = some M' → zGo (X, q12_queueSums, G) 0 0 (39, [(0, .inr (.inr (some (12, 0)))), (1, .inl x1), (2, .inl x2), (3, .inl x3)], [], zfR M)) (x1 : Int32) (x2 : Int32) (x3 : Int32) (t0 : Int32) (M : rM) (h : m12_queueSums_103 k39 x1 x2 x3 t0 M = some M') : zGo (X, q12_queueSums, G) 0 0 (103, [(0, .inr (.inr (some (12, 0)))), (1, .inl x1), (2, .inl x2), (3, .inl x3)], [.inl t0], zfR M) := by
  unfold m12_queueSums_103 at h
  refine zblq Hy.1 Hy.2.1 [(.istore 4, 2), (.iload 4, 2)] (S' := (107, [(0, .inr (.inr (some (12, 0)))), (1, .inl x1), (2, .inl x2), (3, .inl x3), (4, .inl t0)], [.inl t0], zfR M)) (b := true) (by decide +kernel) rfl rfl ?_
  refine zif_eq Hy.1 (off := 106) (tgt := 213) (by decide +kernel) (by decide) (fun hb8 => ?_) (fun hb8 => ?_)
  · replace h := zite_t h hb8
    refine zGo_keep [0, 1, 2, 3] rfl ?_
    exact m12_queueSums_213_ok Hy hE hk39 x1 x2 x3 M h
  · replace h := zite_f h hb8
    obtain ⟨hg2, h⟩ := zgd_inv h
    refine zblq Hy.1 Hy.2.1 [(.iload 1, 1), (.aload 0, 1), (.multianewarray 12 18, 3), (.aload 0, 1), (.getfield 1212, 3), (.iconst 4, 1), (.iaload, 1), (.iload 2, 1), (.aload 0, 1), (.getfield 1208, 3), (.iload 3, 1), (.iaload, 1), (.isub, 1), (.imul, 1), (.iadd, 1)] (S' := (131, [(0, .inr (.inr (some (12, 0)))), (1, .inl x1), (2, .inl x2), (3, .inl x3), (4, .inl t0)], [.inl ((rg M 12 0 18) + ((rg M 1312 0 (nx (4 : Int32))) * (x2 - (rg M 1308 0 (nx x3))))), .inl x1], zfR M)) (b := zin (4 : Int32) 7 && (zin x3 10 && true)) (by decide +kernel) rfl hg2 ?_
    refine zic_lt Hy.1 (off := 82) (tgt := 213) (by decide +kernel) (by decide) (fun hb7 => ?_) (fun hb7 => ?_)
    · replace h := zite_t h hb7
      refine zGo_keep [0, 1, 2, 3] rfl ?_
      exact m12_queueSums_213_ok Hy hE hk39 x1 x2 x3 M h
    · replace h := zite_f h hb7
      obtain ⟨hg3, h⟩ := zgd_inv h
      refine zblq Hy.1 Hy.2.1 [(.iconst 24, 2), (.iload 3, 1), (.imul, 1), (.iconst 6, 2), (.aload 0, 1), (.getfield 1214, 3), (.iload 3, 1), (.iaload, 1), (.imul, 1), (.iadd, 1), (.istore 5, 2), (.aload 0, 1), (.getfield 1215, 3), (.iload 5, 2), (.iconst 1, 1), (.iastore, 1), (.iconst 0, 1), (.istore 6, 2)] (S' := (161, [(0, .inr (.inr (some (12, 0)))), (1, .inl x1), (2, .inl x2), (3, .inl x3), (4, .inl t0), (5, .inl (((24 : Int32) * x3) + ((6 : Int32) * (rg M 1314 0 (nx x3))))), (6, .inl (0 : Int32))], [], zfR (rs M 1315 0 (nx (((24 : Int32) * x3) + ((6 : Int32) * (rg M 1314 0 (nx x3))))) (1 : Int32)))) (b := zin x3 10 && (zin (((24 : Int32) * x3) + ((6 : Int32) * (rg M 1314 0 (nx x3)))) 240 && true)) (by decide +kernel) rfl hg3 ?_
      refine zGo_keep [0, 1, 2, 3, 5, 6] rfl ?_
      exact m12_queueSums_161_ok Hy hE hk39 zfu x1 x2 x3 (((24 : Int32) * x3) + ((6 : Int32) * (rg M 1314 0 (nx x3)))) (0 : Int32) (rs M 1315 0 (nx (((24 : Int32) * x3) + ((6 : Int32) * (rg M 1314 0 (nx x3))))) (1 : Int32)) h
def m12_queueSums_39 : Nat → Int32 → Int32 → Int32 → rM → Option rM
  | 0, _, _, _, _ => none
  | n + 1, x1, x2, x3, M => (if (rg M 12 0 0) ≤ x3 then some M else zgd (zin x3 10 && true) ((if (rg M 1322 0 (nx x3)) = 0 then m12_queueSums_103 (m12_queueSums_39 n) x1 x2 x3 (0 : Int32) M else zgd (zin x3 10 && true) ((if (rg M 1309 0 (nx x3)) = (-1 : Int32) then m12_queueSums_103 (m12_queueSums_39 n) x1 x2 x3 (0 : Int32) M else zgd (zin (((5 : Int32) * x3) + (2 : Int32)) 55 && true) ((if (rg M 1316 0 (nx (((5 : Int32) * x3) + (2 : Int32)))) ≤ 0 then m12_queueSums_103 (m12_queueSums_39 n) x1 x2 x3 (0 : Int32) M else zgd (zin x3 10 && true) ((if (rg M 1317 0 (nx x3)) = 0 then zgd (zin x3 10 && true) ((if (4 : Int32) ≤ (rg M 1314 0 (nx x3)) then m12_queueSums_103 (m12_queueSums_39 n) x1 x2 x3 (0 : Int32) M else m12_queueSums_103 (m12_queueSums_39 n) x1 x2 x3 (1 : Int32) M)) else m12_queueSums_103 (m12_queueSums_39 n) x1 x2 x3 (0 : Int32) M)))))))))
theorem m12_queueSums_39_ok {X : zX} {G : zG} (Hy : zHy X G q12_queueSums zcR 1 21 (none)) {M' : rM} (hE : zEnd X G (none) (zfR M')) : ∀ (n : Nat) (x1 : Int32) (x2 : Int32) (x3 : Int32) (M : rM), m12_queueSums_39 n x1 x2 x3 M = some M' → zGo (X, q12_queueSums, G) 0 0 (39, [(0, .inr (.inr (some (12, 0)))), (1, .inl x1), (2, .inl x2), (3, .inl x3)], [], zfR M) := by
  intro n
  induction n with
  | zero => intro x1 x2 x3 M h; cases h
  | succ n ih =>
    intro x1 x2 x3 M h
    unfold m12_queueSums_39 at h
    refine zblq Hy.1 Hy.2.1 [(.iload 3, 1), (.aload 0, 1), (.multianewarray 12 0, 3)] (S' := (44, [(0, .inr (.inr (some (12, 0)))), (1, .inl x1), (2, .inl x2), (3, .inl x3)], [.inl (rg M 12 0 0), .inl x3], zfR M)) (b := true) (by decide +kernel) rfl rfl ?_
    refine zic_ge Hy.1 (off := 175) (tgt := 219) (by decide +kernel) (by decide) (fun hb18 => ?_) (fun hb18 => ?_)
    · replace h := zite_t h hb18
      cases h
      exact zret_v Hy.1 Hy.2.2 hE (by decide +kernel)
    · replace h := zite_f h hb18
      obtain ⟨hg1, h⟩ := zgd_inv h
      refine zblq Hy.1 Hy.2.1 [(.aload 0, 1), (.getfield 1222, 3), (.iload 3, 1), (.baload, 1)] (S' := (53, [(0, .inr (.inr (some (12, 0)))), (1, .inl x1), (2, .inl x2), (3, .inl x3)], [.inl (rg M 1322 0 (nx x3))], zfR M)) (b := zin x3 10 && true) (by decide +kernel) rfl hg1 ?_
      refine zif_eq Hy.1 (off := 49) (tgt := 102) (by decide +kernel) (by decide) (fun hb17 => ?_) (fun hb17 => ?_)
      · replace h := zite_t h hb17
        refine zblq Hy.1 Hy.2.1 [(.iconst 0, 1)] (S' := (103, [(0, .inr (.inr (some (12, 0)))), (1, .inl x1), (2, .inl x2), (3, .inl x3)], [.inl (0 : Int32)], zfR M)) (b := true) (by decide +kernel) rfl rfl ?_
        refine zGo_keep [0, 1, 2, 3] rfl ?_
        exact m12_queueSums_103_ok Hy hE ih x1 x2 x3 (0 : Int32) M h
      · replace h := zite_f h hb17
        obtain ⟨hg9, h⟩ := zgd_inv h
        refine zblq Hy.1 Hy.2.1 [(.aload 0, 1), (.getfield 1209, 3), (.iload 3, 1), (.iaload, 1), (.iconst (-1), 1)] (S' := (63, [(0, .inr (.inr (some (12, 0)))), (1, .inl x1), (2, .inl x2), (3, .inl x3)], [.inl (-1 : Int32), .inl (rg M 1309 0 (nx x3))], zfR M)) (b := zin x3 10 && true) (by decide +kernel) rfl hg9 ?_
        refine zic_eq Hy.1 (off := 39) (tgt := 102) (by decide +kernel) (by decide) (fun hb16 => ?_) (fun hb16 => ?_)
        · replace h := zite_t h hb16
          refine zblq Hy.1 Hy.2.1 [(.iconst 0, 1)] (S' := (103, [(0, .inr (.inr (some (12, 0)))), (1, .inl x1), (2, .inl x2), (3, .inl x3)], [.inl (0 : Int32)], zfR M)) (b := true) (by decide +kernel) rfl rfl ?_
          refine zGo_keep [0, 1, 2, 3] rfl ?_
          exact m12_queueSums_103_ok Hy hE ih x1 x2 x3 (0 : Int32) M h
        · replace h := zite_f h hb16
          obtain ⟨hg10, h⟩ := zgd_inv h
          refine zblq Hy.1 Hy.2.1 [(.aload 0, 1), (.getfield 1216, 3), (.iconst 5, 1), (.iload 3, 1), (.imul, 1), (.iconst 2, 1), (.iadd, 1), (.iaload, 1)] (S' := (76, [(0, .inr (.inr (some (12, 0)))), (1, .inl x1), (2, .inl x2), (3, .inl x3)], [.inl (rg M 1316 0 (nx (((5 : Int32) * x3) + (2 : Int32))))], zfR M)) (b := zin (((5 : Int32) * x3) + (2 : Int32)) 55 && true) (by decide +kernel) rfl hg10 ?_
          refine zif_le Hy.1 (off := 26) (tgt := 102) (by decide +kernel) (by decide) (fun hb15 => ?_) (fun hb15 => ?_)
          · replace h := zite_t h hb15
            refine zblq Hy.1 Hy.2.1 [(.iconst 0, 1)] (S' := (103, [(0, .inr (.inr (some (12, 0)))), (1, .inl x1), (2, .inl x2), (3, .inl x3)], [.inl (0 : Int32)], zfR M)) (b := true) (by decide +kernel) rfl rfl ?_
            refine zGo_keep [0, 1, 2, 3] rfl ?_
            exact m12_queueSums_103_ok Hy hE ih x1 x2 x3 (0 : Int32) M h
          · replace h := zite_f h hb15
            obtain ⟨hg11, h⟩ := zgd_inv h
            refine zblq Hy.1 Hy.2.1 [(.aload 0, 1), (.getfield 1217, 3), (.iload 3, 1), (.baload, 1)] (S' := (85, [(0, .inr (.inr (some (12, 0)))), (1, .inl x1), (2, .inl x2), (3, .inl x3)], [.inl (rg M 1317 0 (nx x3))], zfR M)) (b := zin x3 10 && true) (by decide +kernel) rfl hg11 ?_
            refine zif_ne Hy.1 (off := 17) (tgt := 102) (by decide +kernel) (by decide) (fun hb14 => ?_) (fun hb14 => ?_)
            · replace h := zite_f h hb14
              refine zblq Hy.1 Hy.2.1 [(.iconst 0, 1)] (S' := (103, [(0, .inr (.inr (some (12, 0)))), (1, .inl x1), (2, .inl x2), (3, .inl x3)], [.inl (0 : Int32)], zfR M)) (b := true) (by decide +kernel) rfl rfl ?_
              refine zGo_keep [0, 1, 2, 3] rfl ?_
              exact m12_queueSums_103_ok Hy hE ih x1 x2 x3 (0 : Int32) M h
            · replace h := zite_t h hb14
              obtain ⟨hg12, h⟩ := zgd_inv h
              refine zblq Hy.1 Hy.2.1 [(.aload 0, 1), (.getfield 1214, 3), (.iload 3, 1), (.iaload, 1), (.iconst 4, 1)] (S' := (95, [(0, .inr (.inr (some (12, 0)))), (1, .inl x1), (2, .inl x2), (3, .inl x3)], [.inl (4 : Int32), .inl (rg M 1314 0 (nx x3))], zfR M)) (b := zin x3 10 && true) (by decide +kernel) rfl hg12 ?_
              refine zic_ge Hy.1 (off := 7) (tgt := 102) (by decide +kernel) (by decide) (fun hb13 => ?_) (fun hb13 => ?_)
              · replace h := zite_t h hb13
                refine zblq Hy.1 Hy.2.1 [(.iconst 0, 1)] (S' := (103, [(0, .inr (.inr (some (12, 0)))), (1, .inl x1), (2, .inl x2), (3, .inl x3)], [.inl (0 : Int32)], zfR M)) (b := true) (by decide +kernel) rfl rfl ?_
                refine zGo_keep [0, 1, 2, 3] rfl ?_
                exact m12_queueSums_103_ok Hy hE ih x1 x2 x3 (0 : Int32) M h
              · replace h := zite_f h hb13
                refine zblq Hy.1 Hy.2.1 [(.iconst 1, 1), (.ldc 103, 3)] (S' := (103, [(0, .inr (.inr (some (12, 0)))), (1, .inl x1), (2, .inl x2), (3, .inl x3)], [.inl (1 : Int32)], zfR M)) (b := true) (by decide +kernel) rfl rfl ?_
                refine zGo_keep [0, 1, 2, 3] rfl ?_
                exact m12_queueSums_103_ok Hy hE ih x1 x2 x3 (1 : Int32) M h
def m12_queueSums_30 (k4 : Int32 → Int32 → Int32 → rM → Option rM) (x1 : Int32) (x3 : Int32) (t0 : Int32) (M : rM) : Option rM := k4 x1 t0 (x3 + (1 : Int32)) M
theorem m12_queueSums_30_ok {X : zX} {G : zG} (Hy : zHy X G q12_queueSums zcR 1 21 (none)) {M' : rM} (hE : zEnd X G (none) (zfR M')) {k4 : Int32 → Int32 → Int32 → rM → Option rM} (hk4 : ∀ (x1 : Int32) (x2 : Int32) (x3 : Int32) (M : rM), k4 x1 x2 x3 M = some M' → zGo (X, q12_queueSums, G) 0 0 (4, [(0, .inr (.inr (some (12, 0)))), (1, .inl x1), (2, .inl x2), (3, .inl x3)], [], zfR M)) (x1 : Int32) (x3 : Int32) (t0 : Int32) (M : rM) (h : m12_queueSums_30 k4 x1 x3 t0 M = some M') : zGo (X, q12_queueSums, G) 0 0 (30, [(0, .inr (.inr (some (12, 0)))), (1, .inl x1), (3, .inl x3)], [.inl t0], zfR M) := by
  unfold m12_queueSums_30 at h
  refine zblq Hy.1 Hy.2.1 [(.istore 2, 1), (.iinc 3 1, 3), (.ldc 4, 3)] (S' := (4, [(0, .inr (.inr (some (12, 0)))), (1, .inl x1), (2, .inl t0), (3, .inl (x3 + (1 : Int32)))], [], zfR M)) (b := true) (by decide +kernel) rfl rfl ?_
  refine zGo_keep [0, 1, 2, 3] rfl ?_
  exact hk4 x1 t0 (x3 + (1 : Int32)) M h
def m12_queueSums_4 : Nat → Int32 → Int32 → Int32 → rM → Option rM
  | 0, _, _, _, _ => none
  | n + 1, x1, x2, x3, M => (if (rg M 12 0 0) ≤ x3 then m12_queueSums_39 zfu x1 x2 (1 : Int32) M else zbd (m12_countOf x3 M) (fun r19 M19 => (if r19 ≤ x2 then m12_queueSums_30 (m12_queueSums_4 n) x1 x3 x2 M19 else zbd (m12_countOf x3 M19) (fun r20 M20 => m12_queueSums_30 (m12_queueSums_4 n) x1 x3 r20 M20))))
theorem m12_queueSums_4_ok {X : zX} {G : zG} (Hy : zHy X G q12_queueSums zcR 1 21 (none)) {M' : rM} (hE : zEnd X G (none) (zfR M')) : ∀ (n : Nat) (x1 : Int32) (x2 : Int32) (x3 : Int32) (M : rM), m12_queueSums_4 n x1 x2 x3 M = some M' → zGo (X, q12_queueSums, G) 0 0 (4, [(0, .inr (.inr (some (12, 0)))), (1, .inl x1), (2, .inl x2), (3, .inl x3)], [], zfR M) := by
  intro n
  induction n with
  | zero => intro x1 x2 x3 M h; cases h
  | succ n ih =>
    intro x1 x2 x3 M h
    unfold m12_queueSums_4 at h
    refine zblq Hy.1 Hy.2.1 [(.iload 3, 1), (.aload 0, 1), (.multianewarray 12 0, 3)] (S' := (9, [(0, .inr (.inr (some (12, 0)))), (1, .inl x1), (2, .inl x2), (3, .inl x3)], [.inl (rg M 12 0 0), .inl x3], zfR M)) (b := true) (by decide +kernel) rfl rfl ?_
    refine zic_ge Hy.1 (off := 28) (tgt := 37) (by decide +kernel) (by decide) (fun hb22 => ?_) (fun hb22 => ?_)
    · replace h := zite_t h hb22
      refine zblq Hy.1 Hy.2.1 [(.iconst 1, 1), (.istore 3, 1)] (S' := (39, [(0, .inr (.inr (some (12, 0)))), (1, .inl x1), (2, .inl x2), (3, .inl (1 : Int32))], [], zfR M)) (b := true) (by decide +kernel) rfl rfl ?_
      refine zGo_keep [0, 1, 2, 3] rfl ?_
      exact m12_queueSums_39_ok Hy hE zfu x1 x2 (1 : Int32) M h
    · replace h := zite_f h hb22
      refine zblq Hy.1 Hy.2.1 [(.aload 0, 1), (.iload 3, 1)] (S' := (14, [(0, .inr (.inr (some (12, 0)))), (1, .inl x1), (2, .inl x2), (3, .inl x3)], [.inl x3, .inr (.inr (some (12, 0)))], zfR M)) (b := true) (by decide +kernel) rfl rfl ?_
      obtain ⟨r19, M19, hc19, h⟩ := zbd_inv h
      refine zcallV Hy.1 (as := [.inl x3]) (st := []) (m12_countOf_met (zOK_G Hy.1) Hy.2.1 hc19) cw12_187 m12_countOf_in m12_countOf_se (by decide) (zhlv Hy.2.1 rfl) rfl (zroom Hy.2.2 ⟨by decide, by decide⟩) rfl (by decide +kernel) ⟨Nat.zero_le _, Nat.zero_le _⟩ ?_
      refine zblq Hy.1 Hy.2.1 [(.iload 2, 1)] (S' := (18, [(0, .inr (.inr (some (12, 0)))), (1, .inl x1), (2, .inl x2), (3, .inl x3)], [.inl x2, .inl r19], zfR M19)) (b := true) (by decide +kernel) rfl rfl ?_
      refine zic_le Hy.1 (off := 11) (tgt := 29) (by decide +kernel) (by decide) (fun hb21 => ?_) (fun hb21 => ?_)
      · replace h := zite_t h hb21
        refine zblq Hy.1 Hy.2.1 [(.iload 2, 1)] (S' := (30, [(0, .inr (.inr (some (12, 0)))), (1, .inl x1), (2, .inl x2), (3, .inl x3)], [.inl x2], zfR M19)) (b := true) (by decide +kernel) rfl rfl ?_
        refine zGo_keep [0, 1, 3] rfl ?_
        exact m12_queueSums_30_ok Hy hE ih x1 x3 x2 M19 h
      · replace h := zite_f h hb21
        refine zblq Hy.1 Hy.2.1 [(.aload 0, 1), (.iload 3, 1)] (S' := (23, [(0, .inr (.inr (some (12, 0)))), (1, .inl x1), (2, .inl x2), (3, .inl x3)], [.inl x3, .inr (.inr (some (12, 0)))], zfR M19)) (b := true) (by decide +kernel) rfl rfl ?_
        obtain ⟨r20, M20, hc20, h⟩ := zbd_inv h
        refine zcallV Hy.1 (as := [.inl x3]) (st := []) (m12_countOf_met (zOK_G Hy.1) Hy.2.1 hc20) cw12_187 m12_countOf_in m12_countOf_se (by decide) (zhlv Hy.2.1 rfl) rfl (zroom Hy.2.2 ⟨by decide, by decide⟩) rfl (by decide +kernel) ⟨Nat.zero_le _, Nat.zero_le _⟩ ?_
        refine zblq Hy.1 Hy.2.1 [(.ldc 30, 3)] (S' := (30, [(0, .inr (.inr (some (12, 0)))), (1, .inl x1), (2, .inl x2), (3, .inl x3)], [.inl r20], zfR M20)) (b := true) (by decide +kernel) rfl rfl ?_
        refine zGo_keep [0, 1, 3] rfl ?_
        exact m12_queueSums_30_ok Hy hE ih x1 x3 r20 M20 h
def m12_queueSums (x1 : Int32) (M : rM) : Option rM := m12_queueSums_4 zfu x1 (0 : Int32) (0 : Int32) M
theorem m12_queueSums_ok {X : zX} {G : zG} (Hy : zHy X G q12_queueSums zcR 1 21 (none)) {M' : rM} (hE : zEnd X G (none) (zfR M')) (x1 : Int32) (M : rM) (h : m12_queueSums x1 M = some M') : zGo (X, q12_queueSums, G) 0 0 (0, [(0, .inr (.inr (some (12, 0)))), (1, .inl x1)], [], zfR M) := by
  unfold m12_queueSums at h
  refine zblq Hy.1 Hy.2.1 [(.iconst 0, 1), (.istore 2, 1), (.iconst 0, 1), (.istore 3, 1)] (S' := (4, [(0, .inr (.inr (some (12, 0)))), (1, .inl x1), (2, .inl (0 : Int32)), (3, .inl (0 : Int32))], [], zfR M)) (b := true) (by decide +kernel) rfl rfl ?_
  refine zGo_keep [0, 1, 2, 3] rfl ?_
  exact m12_queueSums_4_ok Hy hE zfu x1 (0 : Int32) (0 : Int32) M h
theorem m12_queueSums_met {l : Launch} {G : zG} (hG : zGok G) (hcn : zgcn G = zcR) {x1 : Int32} {M : rM} {M' : rM} (h : m12_queueSums x1 M = some M') : zMet l G yX12_queueSums cX12_queueSums 7 (none) 1 21 [.inr (.inr (some (12, 0))), .inl x1] (zfR M) (none) (zfR M') :=
  zMet_of hG tbX12_ok rfl (by decide +kernel) (Nat.le_of_ble_eq_true rfl) (fun X _ Z hA hE => m12_queueSums_ok ⟨Z, hcn, hA⟩ hE x1 M h)
abbrev q12_speak : ByteArray × Nat × String × zT := (cX12_speak, 3, RX12, tbX12)
def m12_speak_169 (k2 : Int32 → rM → Option rM) (x1 : Int32) (M : rM) : Option rM := k2 (x1 + (1 : Int32)) M
theorem m12_speak_169_ok {X : zX} {G : zG} (Hy : zHy X G q12_speak zcR 1 22 (none)) {M' : rM} (hE : zEnd X G (none) (zfR M')) {k2 : Int32 → rM → Option rM} (hk2 : ∀ (x1 : Int32) (M : rM), k2 x1 M = some M' → zGo (X, q12_speak, G) 0 0 (2, [(0, .inr (.inr (some (12, 0)))), (1, .inl x1)], [], zfR M)) (x1 : Int32) (M : rM) (h : m12_speak_169 k2 x1 M = some M') : zGo (X, q12_speak, G) 0 0 (169, [(0, .inr (.inr (some (12, 0)))), (1, .inl x1)], [], zfR M) := by
  unfold m12_speak_169 at h
  refine zblq Hy.1 Hy.2.1 [(.iinc 1 1, 3), (.ldc 2, 3)] (S' := (2, [(0, .inr (.inr (some (12, 0)))), (1, .inl (x1 + (1 : Int32)))], [], zfR M)) (b := true) (by decide +kernel) rfl rfl ?_
  refine zGo_keep [0, 1] rfl ?_
  exact hk2 (x1 + (1 : Int32)) M h
def m12_speak_100 (k2 : Int32 → rM → Option rM) : Nat → Int32 → Int32 → rM → Option rM
  | 0, _, _, _ => none
  | n + 1, x1, x2, M => (if (18 : Int32) ≤ x2 then zgd (zin x1 10 && (zin x1 10 && (zin (2 : Int32) 7 && true))) (zbv (m12_spend x1 (rg (rs M 1314 0 (nx x1) ((rg M 1314 0 (nx x1)) - (1 : Int32))) 1312 0 (nx (2 : Int32))) (rs M 1314 0 (nx x1) ((rg M 1314 0 (nx x1)) - (1 : Int32)))) (fun M3 => zgd (zin (7 : Int32) 8 && (zin (7 : Int32) 8 && true)) (m12_speak_169 k2 x1 (rs M3 1319 0 (nx (7 : Int32)) ((rg M3 1319 0 (nx (7 : Int32))) + (1 : Int32)))))) else zgd (zin ((((24 : Int32) * x1) + (6 : Int32)) + x2) 240 && (zin (((24 : Int32) * x1) + x2) 240 && true)) ((m12_speak_100 k2 n) x1 (x2 + (1 : Int32)) (rs M 1315 0 (nx (((24 : Int32) * x1) + x2)) (rg M 1315 0 (nx ((((24 : Int32) * x1) + (6 : Int32)) + x2))))))
theorem m12_speak_100_ok {X : zX} {G : zG} (Hy : zHy X G q12_speak zcR 1 22 (none)) {M' : rM} (hE : zEnd X G (none) (zfR M')) {k2 : Int32 → rM → Option rM} (hk2 : ∀ (x1 : Int32) (M : rM), k2 x1 M = some M' → zGo (X, q12_speak, G) 0 0 (2, [(0, .inr (.inr (some (12, 0)))), (1, .inl x1)], [], zfR M)) : ∀ (n : Nat) (x1 : Int32) (x2 : Int32) (M : rM), m12_speak_100 k2 n x1 x2 M = some M' → zGo (X, q12_speak, G) 0 0 (100, [(0, .inr (.inr (some (12, 0)))), (1, .inl x1), (2, .inl x2)], [], zfR M) := by
  intro n
  induction n with
  | zero => intro x1 x2 M h; cases h
  | succ n ih =>
    intro x1 x2 M h
    unfold m12_speak_100 at h
    refine zblq Hy.1 Hy.2.1 [(.iload 2, 1), (.iconst 18, 2)] (S' := (103, [(0, .inr (.inr (some (12, 0)))), (1, .inl x1), (2, .inl x2)], [.inl (18 : Int32), .inl x2], zfR M)) (b := true) (by decide +kernel) rfl rfl ?_
    refine zic_ge Hy.1 (off := 34) (tgt := 137) (by decide +kernel) (by decide) (fun hb6 => ?_) (fun hb6 => ?_)
    · replace h := zite_t h hb6
      obtain ⟨hg2, h⟩ := zgd_inv h
      refine zblq Hy.1 Hy.2.1 [(.aload 0, 1), (.getfield 1214, 3), (.iload 1, 1), (.dup2, 1), (.iaload, 1), (.iconst 1, 1), (.isub, 1), (.iastore, 1), (.aload 0, 1), (.iload 1, 1), (.aload 0, 1), (.getfield 1212, 3), (.iconst 2, 1), (.iaload, 1)] (S' := (155, [(0, .inr (.inr (some (12, 0)))), (1, .inl x1), (2, .inl x2)], [.inl (rg (rs M 1314 0 (nx x1) ((rg M 1314 0 (nx x1)) - (1 : Int32))) 1312 0 (nx (2 : Int32))), .inl x1, .inr (.inr (some (12, 0)))], zfR (rs M 1314 0 (nx x1) ((rg M 1314 0 (nx x1)) - (1 : Int32))))) (b := zin x1 10 && (zin x1 10 && (zin (2 : Int32) 7 && true))) (by decide +kernel) rfl hg2 ?_
      obtain ⟨M3, hc3, h⟩ := zbv_inv h
      refine zcallV Hy.1 (as := [.inl x1, .inl (rg (rs M 1314 0 (nx x1) ((rg M 1314 0 (nx x1)) - (1 : Int32))) 1312 0 (nx (2 : Int32)))]) (st := []) (m12_spend_met (zOK_G Hy.1) Hy.2.1 hc3) cw12_225 m12_spend_in m12_spend_se (by decide) (zhlv Hy.2.1 rfl) rfl (zroom Hy.2.2 ⟨by decide, by decide⟩) rfl (by decide +kernel) ⟨Nat.zero_le _, Nat.zero_le _⟩ ?_
      obtain ⟨hg4, h⟩ := zgd_inv h
      refine zblq Hy.1 Hy.2.1 [(.aload 0, 1), (.getfield 1219, 3), (.iconst 7, 2), (.dup2, 1), (.iaload, 1), (.iconst 1, 1), (.iadd, 1), (.iastore, 1)] (S' := (169, [(0, .inr (.inr (some (12, 0)))), (1, .inl x1), (2, .inl x2)], [], zfR (rs M3 1319 0 (nx (7 : Int32)) ((rg M3 1319 0 (nx (7 : Int32))) + (1 : Int32))))) (b := zin (7 : Int32) 8 && (zin (7 : Int32) 8 && true)) (by decide +kernel) rfl hg4 ?_
      refine zGo_keep [0, 1] rfl ?_
      exact m12_speak_169_ok Hy hE hk2 x1 (rs M3 1319 0 (nx (7 : Int32)) ((rg M3 1319 0 (nx (7 : Int32))) + (1 : Int32))) h
    · replace h := zite_f h hb6
      obtain ⟨hg5, h⟩ := zgd_inv h
      refine zblq Hy.1 Hy.2.1 [(.aload 0, 1), (.getfield 1215, 3), (.iconst 24, 2), (.iload 1, 1), (.imul, 1), (.iload 2, 1), (.iadd, 1), (.aload 0, 1), (.getfield 1215, 3), (.iconst 24, 2), (.iload 1, 1), (.imul, 1), (.iconst 6, 2), (.iadd, 1), (.iload 2, 1), (.iadd, 1), (.iaload, 1), (.iastore, 1), (.iinc 2 1, 3), (.ldc 100, 3)] (S' := (100, [(0, .inr (.inr (some (12, 0)))), (1, .inl x1), (2, .inl (x2 + (1 : Int32)))], [], zfR (rs M 1315 0 (nx (((24 : Int32) * x1) + x2)) (rg M 1315 0 (nx ((((24 : Int32) * x1) + (6 : Int32)) + x2)))))) (b := zin ((((24 : Int32) * x1) + (6 : Int32)) + x2) 240 && (zin (((24 : Int32) * x1) + x2) 240 && true)) (by decide +kernel) rfl hg5 ?_
      refine zGo_keep [0, 1, 2] rfl ?_
      exact ih x1 (x2 + (1 : Int32)) (rs M 1315 0 (nx (((24 : Int32) * x1) + x2)) (rg M 1315 0 (nx ((((24 : Int32) * x1) + (6 : Int32)) + x2)))) h
def m12_speak_64 (k2 : Int32 → rM → Option rM) : Nat → Int32 → Int32 → rM → Option rM
  | 0, _, _, _ => none
  | n + 1, x1, x2, M => (if (6 : Int32) ≤ x2 then m12_speak_100 k2 zfu x1 (0 : Int32) M else zgd (zin (((24 : Int32) * x1) + x2) 240 && (zin (((6 : Int32) * x1) + x2) 60 && true)) ((m12_speak_64 k2 n) x1 (x2 + (1 : Int32)) (rs M 1325 0 (nx (((6 : Int32) * x1) + x2)) (rg M 1315 0 (nx (((24 : Int32) * x1) + x2))))))
theorem m12_speak_64_ok {X : zX} {G : zG} (Hy : zHy X G q12_speak zcR 1 22 (none)) {M' : rM} (hE : zEnd X G (none) (zfR M')) {k2 : Int32 → rM → Option rM} (hk2 : ∀ (x1 : Int32) (M : rM), k2 x1 M = some M' → zGo (X, q12_speak, G) 0 0 (2, [(0, .inr (.inr (some (12, 0)))), (1, .inl x1)], [], zfR M)) : ∀ (n : Nat) (x1 : Int32) (x2 : Int32) (M : rM), m12_speak_64 k2 n x1 x2 M = some M' → zGo (X, q12_speak, G) 0 0 (64, [(0, .inr (.inr (some (12, 0)))), (1, .inl x1), (2, .inl x2)], [], zfR M) := by
  intro n
  induction n with
  | zero => intro x1 x2 M h; cases h
  | succ n ih =>
    intro x1 x2 M h
    unfold m12_speak_64 at h
    refine zblq Hy.1 Hy.2.1 [(.iload 2, 1), (.iconst 6, 2)] (S' := (67, [(0, .inr (.inr (some (12, 0)))), (1, .inl x1), (2, .inl x2)], [.inl (6 : Int32), .inl x2], zfR M)) (b := true) (by decide +kernel) rfl rfl ?_
    refine zic_ge Hy.1 (off := 31) (tgt := 98) (by decide +kernel) (by decide) (fun hb8 => ?_) (fun hb8 => ?_)
    · replace h := zite_t h hb8
      refine zblq Hy.1 Hy.2.1 [(.iconst 0, 1), (.istore 2, 1)] (S' := (100, [(0, .inr (.inr (some (12, 0)))), (1, .inl x1), (2, .inl (0 : Int32))], [], zfR M)) (b := true) (by decide +kernel) rfl rfl ?_
      refine zGo_keep [0, 1, 2] rfl ?_
      exact m12_speak_100_ok Hy hE hk2 zfu x1 (0 : Int32) M h
    · replace h := zite_f h hb8
      obtain ⟨hg7, h⟩ := zgd_inv h
      refine zblq Hy.1 Hy.2.1 [(.aload 0, 1), (.getfield 1225, 3), (.iconst 6, 2), (.iload 1, 1), (.imul, 1), (.iload 2, 1), (.iadd, 1), (.aload 0, 1), (.getfield 1215, 3), (.iconst 24, 2), (.iload 1, 1), (.imul, 1), (.iload 2, 1), (.iadd, 1), (.iaload, 1), (.iastore, 1), (.iinc 2 1, 3), (.ldc 64, 3)] (S' := (64, [(0, .inr (.inr (some (12, 0)))), (1, .inl x1), (2, .inl (x2 + (1 : Int32)))], [], zfR (rs M 1325 0 (nx (((6 : Int32) * x1) + x2)) (rg M 1315 0 (nx (((24 : Int32) * x1) + x2)))))) (b := zin (((24 : Int32) * x1) + x2) 240 && (zin (((6 : Int32) * x1) + x2) 60 && true)) (by decide +kernel) rfl hg7 ?_
      refine zGo_keep [0, 1, 2] rfl ?_
      exact ih x1 (x2 + (1 : Int32)) (rs M 1325 0 (nx (((6 : Int32) * x1) + x2)) (rg M 1315 0 (nx (((24 : Int32) * x1) + x2)))) h
def m12_speak_52 (k2 : Int32 → rM → Option rM) (x1 : Int32) (t1 : Int32) (t2 : Int32) (M : rM) : Option rM := zgd (zin t1 10 && (zin x1 10 && true)) ((if (rg (rs M 1324 0 (nx t1) (vp_nar .boolean t2)) 1324 0 (nx x1)) = 0 then m12_speak_169 k2 x1 (rs M 1324 0 (nx t1) (vp_nar .boolean t2)) else m12_speak_64 k2 zfu x1 (0 : Int32) (rs M 1324 0 (nx t1) (vp_nar .boolean t2))))
theorem m12_speak_52_ok {X : zX} {G : zG} (Hy : zHy X G q12_speak zcR 1 22 (none)) {M' : rM} (hE : zEnd X G (none) (zfR M')) {k2 : Int32 → rM → Option rM} (hk2 : ∀ (x1 : Int32) (M : rM), k2 x1 M = some M' → zGo (X, q12_speak, G) 0 0 (2, [(0, .inr (.inr (some (12, 0)))), (1, .inl x1)], [], zfR M)) (x1 : Int32) (t1 : Int32) (t2 : Int32) (M : rM) (h : m12_speak_52 k2 x1 t1 t2 M = some M') : zGo (X, q12_speak, G) 0 0 (52, [(0, .inr (.inr (some (12, 0)))), (1, .inl x1)], [.inl t2, .inl t1, .inr (.inr (some (1324, 0)))], zfR M) := by
  unfold m12_speak_52 at h
  obtain ⟨hg1, h⟩ := zgd_inv h
  refine zblq Hy.1 Hy.2.1 [(.bastore, 1), (.aload 0, 1), (.getfield 1224, 3), (.iload 1, 1), (.baload, 1)] (S' := (59, [(0, .inr (.inr (some (12, 0)))), (1, .inl x1)], [.inl (rg (rs M 1324 0 (nx t1) (vp_nar .boolean t2)) 1324 0 (nx x1))], zfR (rs M 1324 0 (nx t1) (vp_nar .boolean t2)))) (b := zin t1 10 && (zin x1 10 && true)) (by decide +kernel) rfl hg1 ?_
  refine zif_eq Hy.1 (off := 110) (tgt := 169) (by decide +kernel) (by decide) (fun hb9 => ?_) (fun hb9 => ?_)
  · replace h := zite_t h hb9
    refine zGo_keep [0, 1] rfl ?_
    exact m12_speak_169_ok Hy hE hk2 x1 (rs M 1324 0 (nx t1) (vp_nar .boolean t2)) h
  · replace h := zite_f h hb9
    refine zblq Hy.1 Hy.2.1 [(.iconst 0, 1), (.istore 2, 1)] (S' := (64, [(0, .inr (.inr (some (12, 0)))), (1, .inl x1), (2, .inl (0 : Int32))], [], zfR (rs M 1324 0 (nx t1) (vp_nar .boolean t2)))) (b := true) (by decide +kernel) rfl rfl ?_
    refine zGo_keep [0, 1, 2] rfl ?_
    exact m12_speak_64_ok Hy hE hk2 zfu x1 (0 : Int32) (rs M 1324 0 (nx t1) (vp_nar .boolean t2)) h
def m12_speak_2 : Nat → Int32 → rM → Option rM
  | 0, _, _ => none
  | n + 1, x1, M => (if (rg M 12 0 0) ≤ x1 then some M else (if x1 ≤ 0 then m12_speak_52 (m12_speak_2 n) x1 x1 (0 : Int32) M else zgd (zin x1 10 && true) ((if (rg M 1322 0 (nx x1)) = 0 then m12_speak_52 (m12_speak_2 n) x1 x1 (0 : Int32) M else zgd (zin x1 10 && true) ((if (rg M 1309 0 (nx x1)) = (-1 : Int32) then m12_speak_52 (m12_speak_2 n) x1 x1 (0 : Int32) M else zgd (zin x1 10 && true) ((if (rg M 1314 0 (nx x1)) ≤ 0 then m12_speak_52 (m12_speak_2 n) x1 x1 (0 : Int32) M else m12_speak_52 (m12_speak_2 n) x1 x1 (1 : Int32) M))))))))
theorem m12_speak_2_ok {X : zX} {G : zG} (Hy : zHy X G q12_speak zcR 1 22 (none)) {M' : rM} (hE : zEnd X G (none) (zfR M')) : ∀ (n : Nat) (x1 : Int32) (M : rM), m12_speak_2 n x1 M = some M' → zGo (X, q12_speak, G) 0 0 (2, [(0, .inr (.inr (some (12, 0)))), (1, .inl x1)], [], zfR M) := by
  intro n
  induction n with
  | zero => intro x1 M h; cases h
  | succ n ih =>
    intro x1 M h
    unfold m12_speak_2 at h
    refine zblq Hy.1 Hy.2.1 [(.iload 1, 1), (.aload 0, 1), (.multianewarray 12 0, 3)] (S' := (7, [(0, .inr (.inr (some (12, 0)))), (1, .inl x1)], [.inl (rg M 12 0 0), .inl x1], zfR M)) (b := true) (by decide +kernel) rfl rfl ?_
    refine zic_ge Hy.1 (off := 168) (tgt := 175) (by decide +kernel) (by decide) (fun hb17 => ?_) (fun hb17 => ?_)
    · replace h := zite_t h hb17
      cases h
      exact zret_v Hy.1 Hy.2.2 hE (by decide +kernel)
    · replace h := zite_f h hb17
      refine zblq Hy.1 Hy.2.1 [(.aload 0, 1), (.getfield 1224, 3), (.iload 1, 1), (.iload 1, 1)] (S' := (16, [(0, .inr (.inr (some (12, 0)))), (1, .inl x1)], [.inl x1, .inl x1, .inr (.inr (some (1324, 0)))], zfR M)) (b := true) (by decide +kernel) rfl rfl ?_
      refine zif_le Hy.1 (off := 35) (tgt := 51) (by decide +kernel) (by decide) (fun hb16 => ?_) (fun hb16 => ?_)
      · replace h := zite_t h hb16
        refine zblq Hy.1 Hy.2.1 [(.iconst 0, 1)] (S' := (52, [(0, .inr (.inr (some (12, 0)))), (1, .inl x1)], [.inl (0 : Int32), .inl x1, .inr (.inr (some (1324, 0)))], zfR M)) (b := true) (by decide +kernel) rfl rfl ?_
        refine zGo_keep [0, 1] rfl ?_
        exact m12_speak_52_ok Hy hE ih x1 x1 (0 : Int32) M h
      · replace h := zite_f h hb16
        obtain ⟨hg10, h⟩ := zgd_inv h
        refine zblq Hy.1 Hy.2.1 [(.aload 0, 1), (.getfield 1222, 3), (.iload 1, 1), (.baload, 1)] (S' := (25, [(0, .inr (.inr (some (12, 0)))), (1, .inl x1)], [.inl (rg M 1322 0 (nx x1)), .inl x1, .inr (.inr (some (1324, 0)))], zfR M)) (b := zin x1 10 && true) (by decide +kernel) rfl hg10 ?_
        refine zif_eq Hy.1 (off := 26) (tgt := 51) (by decide +kernel) (by decide) (fun hb15 => ?_) (fun hb15 => ?_)
        · replace h := zite_t h hb15
          refine zblq Hy.1 Hy.2.1 [(.iconst 0, 1)] (S' := (52, [(0, .inr (.inr (some (12, 0)))), (1, .inl x1)], [.inl (0 : Int32), .inl x1, .inr (.inr (some (1324, 0)))], zfR M)) (b := true) (by decide +kernel) rfl rfl ?_
          refine zGo_keep [0, 1] rfl ?_
          exact m12_speak_52_ok Hy hE ih x1 x1 (0 : Int32) M h
        · replace h := zite_f h hb15
          obtain ⟨hg11, h⟩ := zgd_inv h
          refine zblq Hy.1 Hy.2.1 [(.aload 0, 1), (.getfield 1209, 3), (.iload 1, 1), (.iaload, 1), (.iconst (-1), 1)] (S' := (35, [(0, .inr (.inr (some (12, 0)))), (1, .inl x1)], [.inl (-1 : Int32), .inl (rg M 1309 0 (nx x1)), .inl x1, .inr (.inr (some (1324, 0)))], zfR M)) (b := zin x1 10 && true) (by decide +kernel) rfl hg11 ?_
          refine zic_eq Hy.1 (off := 16) (tgt := 51) (by decide +kernel) (by decide) (fun hb14 => ?_) (fun hb14 => ?_)
          · replace h := zite_t h hb14
            refine zblq Hy.1 Hy.2.1 [(.iconst 0, 1)] (S' := (52, [(0, .inr (.inr (some (12, 0)))), (1, .inl x1)], [.inl (0 : Int32), .inl x1, .inr (.inr (some (1324, 0)))], zfR M)) (b := true) (by decide +kernel) rfl rfl ?_
            refine zGo_keep [0, 1] rfl ?_
            exact m12_speak_52_ok Hy hE ih x1 x1 (0 : Int32) M h
          · replace h := zite_f h hb14
            obtain ⟨hg12, h⟩ := zgd_inv h
            refine zblq Hy.1 Hy.2.1 [(.aload 0, 1), (.getfield 1214, 3), (.iload 1, 1), (.iaload, 1)] (S' := (44, [(0, .inr (.inr (some (12, 0)))), (1, .inl x1)], [.inl (rg M 1314 0 (nx x1)), .inl x1, .inr (.inr (some (1324, 0)))], zfR M)) (b := zin x1 10 && true) (by decide +kernel) rfl hg12 ?_
            refine zif_le Hy.1 (off := 7) (tgt := 51) (by decide +kernel) (by decide) (fun hb13 => ?_) (fun hb13 => ?_)
            · replace h := zite_t h hb13
              refine zblq Hy.1 Hy.2.1 [(.iconst 0, 1)] (S' := (52, [(0, .inr (.inr (some (12, 0)))), (1, .inl x1)], [.inl (0 : Int32), .inl x1, .inr (.inr (some (1324, 0)))], zfR M)) (b := true) (by decide +kernel) rfl rfl ?_
              refine zGo_keep [0, 1] rfl ?_
              exact m12_speak_52_ok Hy hE ih x1 x1 (0 : Int32) M h
            · replace h := zite_f h hb13
              refine zblq Hy.1 Hy.2.1 [(.iconst 1, 1), (.ldc 52, 3)] (S' := (52, [(0, .inr (.inr (some (12, 0)))), (1, .inl x1)], [.inl (1 : Int32), .inl x1, .inr (.inr (some (1324, 0)))], zfR M)) (b := true) (by decide +kernel) rfl rfl ?_
              refine zGo_keep [0, 1] rfl ?_
              exact m12_speak_52_ok Hy hE ih x1 x1 (1 : Int32) M h
def m12_speak  (M : rM) : Option rM := m12_speak_2 zfu (0 : Int32) M
theorem m12_speak_ok {X : zX} {G : zG} (Hy : zHy X G q12_speak zcR 1 22 (none)) {M' : rM} (hE : zEnd X G (none) (zfR M'))  (M : rM) (h : m12_speak M = some M') : zGo (X, q12_speak, G) 0 0 (0, [(0, .inr (.inr (some (12, 0))))], [], zfR M) := by
  unfold m12_speak at h
  refine zblq Hy.1 Hy.2.1 [(.iconst 0, 1), (.istore 1, 1)] (S' := (2, [(0, .inr (.inr (some (12, 0)))), (1, .inl (0 : Int32))], [], zfR M)) (b := true) (by decide +kernel) rfl rfl ?_
  refine zGo_keep [0, 1] rfl ?_
  exact m12_speak_2_ok Hy hE zfu (0 : Int32) M h
theorem m12_speak_met {l : Launch} {G : zG} (hG : zGok G) (hcn : zgcn G = zcR)  {M : rM} {M' : rM} (h : m12_speak M = some M') : zMet l G yX12_speak cX12_speak 3 (none) 1 22 [.inr (.inr (some (12, 0)))] (zfR M) (none) (zfR M') :=
  zMet_of hG tbX12_ok rfl (by decide +kernel) (Nat.le_of_ble_eq_true rfl) (fun X _ Z hA hE => m12_speak_ok ⟨Z, hcn, hA⟩ hE M h)
abbrev q12_listen : ByteArray × Nat × String × zT := (cX12_listen, 3, RX12, tbX12)
def m12_listen_117 (k2 : Int32 → rM → Option rM) (x1 : Int32) (M : rM) : Option rM := k2 (x1 + (1 : Int32)) M
theorem m12_listen_117_ok {X : zX} {G : zG} (Hy : zHy X G q12_listen zcR 1 22 (none)) {M' : rM} (hE : zEnd X G (none) (zfR M')) {k2 : Int32 → rM → Option rM} (hk2 : ∀ (x1 : Int32) (M : rM), k2 x1 M = some M' → zGo (X, q12_listen, G) 0 0 (2, [(0, .inr (.inr (some (12, 0)))), (1, .inl x1)], [], zfR M)) (x1 : Int32) (M : rM) (h : m12_listen_117 k2 x1 M = some M') : zGo (X, q12_listen, G) 0 0 (117, [(0, .inr (.inr (some (12, 0)))), (1, .inl x1)], [], zfR M) := by
  unfold m12_listen_117 at h
  refine zblq Hy.1 Hy.2.1 [(.iinc 1 1, 3), (.ldc 2, 3)] (S' := (2, [(0, .inr (.inr (some (12, 0)))), (1, .inl (x1 + (1 : Int32)))], [], zfR M)) (b := true) (by decide +kernel) rfl rfl ?_
  refine zGo_keep [0, 1] rfl ?_
  exact hk2 (x1 + (1 : Int32)) M h
def m12_listen_73 (k2 : Int32 → rM → Option rM) (k26 : Int32 → Int32 → rM → Option rM) (x1 : Int32) (x2 : Int32) (M : rM) : Option rM := k26 x1 (x2 + (1 : Int32)) M
theorem m12_listen_73_ok {X : zX} {G : zG} (Hy : zHy X G q12_listen zcR 1 22 (none)) {M' : rM} (hE : zEnd X G (none) (zfR M')) {k2 : Int32 → rM → Option rM} (hk2 : ∀ (x1 : Int32) (M : rM), k2 x1 M = some M' → zGo (X, q12_listen, G) 0 0 (2, [(0, .inr (.inr (some (12, 0)))), (1, .inl x1)], [], zfR M)) {k26 : Int32 → Int32 → rM → Option rM} (hk26 : ∀ (x1 : Int32) (x2 : Int32) (M : rM), k26 x1 x2 M = some M' → zGo (X, q12_listen, G) 0 0 (26, [(0, .inr (.inr (some (12, 0)))), (1, .inl x1), (2, .inl x2)], [], zfR M)) (x1 : Int32) (x2 : Int32) (M : rM) (h : m12_listen_73 k2 k26 x1 x2 M = some M') : zGo (X, q12_listen, G) 0 0 (73, [(0, .inr (.inr (some (12, 0)))), (1, .inl x1), (2, .inl x2)], [], zfR M) := by
  unfold m12_listen_73 at h
  refine zblq Hy.1 Hy.2.1 [(.iinc 2 1, 3), (.ldc 26, 3)] (S' := (26, [(0, .inr (.inr (some (12, 0)))), (1, .inl x1), (2, .inl (x2 + (1 : Int32)))], [], zfR M)) (b := true) (by decide +kernel) rfl rfl ?_
  refine zGo_keep [0, 1, 2] rfl ?_
  exact hk26 x1 (x2 + (1 : Int32)) M h
def m12_listen_26 (k2 : Int32 → rM → Option rM) : Nat → Int32 → Int32 → rM → Option rM
  | 0, _, _, _ => none
  | n + 1, x1, x2, M => (if (rg M 12 0 0) ≤ x2 then zgd (zin x1 10 && true) ((if (rg M 1322 0 (nx x1)) = 0 then m12_listen_117 k2 x1 M else zgd (zin x1 10 && true) ((if (rg M 1324 0 (nx x1)) = 0 then zgd (zin x1 10 && true) ((if (rg M 1326 0 (nx x1)) ≤ 0 then m12_listen_117 k2 x1 M else zgd (zin (3 : Int32) 7 && true) (zbv (m12_spend x1 (rg M 1312 0 (nx (3 : Int32))) M) (fun M6 => m12_listen_117 k2 x1 M6)))) else m12_listen_117 k2 x1 M)))) else zgd (zin x2 10 && true) ((if (rg M 1324 0 (nx x2)) = 0 then m12_listen_73 k2 (m12_listen_26 k2 n) x1 x2 M else zgd (zin x1 10 && true) (zbd (m12_isIn (rg M 1307 0 (nx x1)) x2 M) (fun r12 M12 => (if r12 = 0 then m12_listen_73 k2 (m12_listen_26 k2 n) x1 x2 M12 else zgd (zin x1 10 && (zin x1 10 && (zin x1 10 && true))) (m12_listen_73 k2 (m12_listen_26 k2 n) x1 x2 (rs (rs M12 1326 0 (nx x1) ((rg M12 1326 0 (nx x1)) + (1 : Int32))) 1327 0 (nx x1) x2))))))))
theorem m12_listen_26_ok {X : zX} {G : zG} (Hy : zHy X G q12_listen zcR 1 22 (none)) {M' : rM} (hE : zEnd X G (none) (zfR M')) {k2 : Int32 → rM → Option rM} (hk2 : ∀ (x1 : Int32) (M : rM), k2 x1 M = some M' → zGo (X, q12_listen, G) 0 0 (2, [(0, .inr (.inr (some (12, 0)))), (1, .inl x1)], [], zfR M)) : ∀ (n : Nat) (x1 : Int32) (x2 : Int32) (M : rM), m12_listen_26 k2 n x1 x2 M = some M' → zGo (X, q12_listen, G) 0 0 (26, [(0, .inr (.inr (some (12, 0)))), (1, .inl x1), (2, .inl x2)], [], zfR M) := by
  intro n
  induction n with
  | zero => intro x1 x2 M h; cases h
  | succ n ih =>
    intro x1 x2 M h
    unfold m12_listen_26 at h
    refine zblq Hy.1 Hy.2.1 [(.iload 2, 1), (.aload 0, 1), (.multianewarray 12 0, 3)] (S' := (31, [(0, .inr (.inr (some (12, 0)))), (1, .inl x1), (2, .inl x2)], [.inl (rg M 12 0 0), .inl x2], zfR M)) (b := true) (by decide +kernel) rfl rfl ?_
    refine zic_ge Hy.1 (off := 48) (tgt := 79) (by decide +kernel) (by decide) (fun hb16 => ?_) (fun hb16 => ?_)
    · replace h := zite_t h hb16
      obtain ⟨hg2, h⟩ := zgd_inv h
      refine zblq Hy.1 Hy.2.1 [(.aload 0, 1), (.getfield 1222, 3), (.iload 1, 1), (.baload, 1)] (S' := (85, [(0, .inr (.inr (some (12, 0)))), (1, .inl x1), (2, .inl x2)], [.inl (rg M 1322 0 (nx x1))], zfR M)) (b := zin x1 10 && true) (by decide +kernel) rfl hg2 ?_
      refine zif_eq Hy.1 (off := 32) (tgt := 117) (by decide +kernel) (by decide) (fun hb9 => ?_) (fun hb9 => ?_)
      · replace h := zite_t h hb9
        refine zGo_keep [0, 1] rfl ?_
        exact m12_listen_117_ok Hy hE hk2 x1 M h
      · replace h := zite_f h hb9
        obtain ⟨hg3, h⟩ := zgd_inv h
        refine zblq Hy.1 Hy.2.1 [(.aload 0, 1), (.getfield 1224, 3), (.iload 1, 1), (.baload, 1)] (S' := (94, [(0, .inr (.inr (some (12, 0)))), (1, .inl x1), (2, .inl x2)], [.inl (rg M 1324 0 (nx x1))], zfR M)) (b := zin x1 10 && true) (by decide +kernel) rfl hg3 ?_
        refine zif_ne Hy.1 (off := 23) (tgt := 117) (by decide +kernel) (by decide) (fun hb8 => ?_) (fun hb8 => ?_)
        · replace h := zite_f h hb8
          refine zGo_keep [0, 1] rfl ?_
          exact m12_listen_117_ok Hy hE hk2 x1 M h
        · replace h := zite_t h hb8
          obtain ⟨hg4, h⟩ := zgd_inv h
          refine zblq Hy.1 Hy.2.1 [(.aload 0, 1), (.getfield 1226, 3), (.iload 1, 1), (.iaload, 1)] (S' := (103, [(0, .inr (.inr (some (12, 0)))), (1, .inl x1), (2, .inl x2)], [.inl (rg M 1326 0 (nx x1))], zfR M)) (b := zin x1 10 && true) (by decide +kernel) rfl hg4 ?_
          refine zif_le Hy.1 (off := 14) (tgt := 117) (by decide +kernel) (by decide) (fun hb7 => ?_) (fun hb7 => ?_)
          · replace h := zite_t h hb7
            refine zGo_keep [0, 1] rfl ?_
            exact m12_listen_117_ok Hy hE hk2 x1 M h
          · replace h := zite_f h hb7
            obtain ⟨hg5, h⟩ := zgd_inv h
            refine zblq Hy.1 Hy.2.1 [(.aload 0, 1), (.iload 1, 1), (.aload 0, 1), (.getfield 1212, 3), (.iconst 3, 1), (.iaload, 1)] (S' := (114, [(0, .inr (.inr (some (12, 0)))), (1, .inl x1), (2, .inl x2)], [.inl (rg M 1312 0 (nx (3 : Int32))), .inl x1, .inr (.inr (some (12, 0)))], zfR M)) (b := zin (3 : Int32) 7 && true) (by decide +kernel) rfl hg5 ?_
            obtain ⟨M6, hc6, h⟩ := zbv_inv h
            refine zcallV Hy.1 (as := [.inl x1, .inl (rg M 1312 0 (nx (3 : Int32)))]) (st := []) (m12_spend_met (zOK_G Hy.1) Hy.2.1 hc6) cw12_225 m12_spend_in m12_spend_se (by decide) (zhlv Hy.2.1 rfl) rfl (zroom Hy.2.2 ⟨by decide, by decide⟩) rfl (by decide +kernel) ⟨Nat.zero_le _, Nat.zero_le _⟩ ?_
            refine zGo_keep [0, 1] rfl ?_
            exact m12_listen_117_ok Hy hE hk2 x1 M6 h
    · replace h := zite_f h hb16
      obtain ⟨hg10, h⟩ := zgd_inv h
      refine zblq Hy.1 Hy.2.1 [(.aload 0, 1), (.getfield 1224, 3), (.iload 2, 1), (.baload, 1)] (S' := (40, [(0, .inr (.inr (some (12, 0)))), (1, .inl x1), (2, .inl x2)], [.inl (rg M 1324 0 (nx x2))], zfR M)) (b := zin x2 10 && true) (by decide +kernel) rfl hg10 ?_
      refine zif_eq Hy.1 (off := 33) (tgt := 73) (by decide +kernel) (by decide) (fun hb15 => ?_) (fun hb15 => ?_)
      · replace h := zite_t h hb15
        refine zGo_keep [0, 1, 2] rfl ?_
        exact m12_listen_73_ok Hy hE hk2 ih x1 x2 M h
      · replace h := zite_f h hb15
        obtain ⟨hg11, h⟩ := zgd_inv h
        refine zblq Hy.1 Hy.2.1 [(.aload 0, 1), (.getfield 1207, 3), (.iload 1, 1), (.iaload, 1), (.iload 2, 1)] (S' := (50, [(0, .inr (.inr (some (12, 0)))), (1, .inl x1), (2, .inl x2)], [.inl x2, .inl (rg M 1307 0 (nx x1))], zfR M)) (b := zin x1 10 && true) (by decide +kernel) rfl hg11 ?_
        obtain ⟨r12, M12, hc12, h⟩ := zbd_inv h
        refine zcallS Hy.1 (as := [.inl (rg M 1307 0 (nx x1)), .inl x2]) (st := []) (m12_isIn_met (zOK_G Hy.1) Hy.2.1 hc12) cw12_183 m12_isIn_in rfl (zroom Hy.2.2 ⟨by decide, by decide⟩) rfl (by decide +kernel) ⟨Nat.zero_le _, Nat.zero_le _⟩ ?_
        refine zif_eq Hy.1 (off := 20) (tgt := 73) (by decide +kernel) (by decide) (fun hb14 => ?_) (fun hb14 => ?_)
        · replace h := zite_t h hb14
          refine zGo_keep [0, 1, 2] rfl ?_
          exact m12_listen_73_ok Hy hE hk2 ih x1 x2 M12 h
        · replace h := zite_f h hb14
          obtain ⟨hg13, h⟩ := zgd_inv h
          refine zblq Hy.1 Hy.2.1 [(.aload 0, 1), (.getfield 1226, 3), (.iload 1, 1), (.dup2, 1), (.iaload, 1), (.iconst 1, 1), (.iadd, 1), (.iastore, 1), (.aload 0, 1), (.getfield 1227, 3), (.iload 1, 1), (.iload 2, 1), (.iastore, 1)] (S' := (73, [(0, .inr (.inr (some (12, 0)))), (1, .inl x1), (2, .inl x2)], [], zfR (rs (rs M12 1326 0 (nx x1) ((rg M12 1326 0 (nx x1)) + (1 : Int32))) 1327 0 (nx x1) x2))) (b := zin x1 10 && (zin x1 10 && (zin x1 10 && true))) (by decide +kernel) rfl hg13 ?_
          refine zGo_keep [0, 1, 2] rfl ?_
          exact m12_listen_73_ok Hy hE hk2 ih x1 x2 (rs (rs M12 1326 0 (nx x1) ((rg M12 1326 0 (nx x1)) + (1 : Int32))) 1327 0 (nx x1) x2) h
def m12_listen_2 : Nat → Int32 → rM → Option rM
  | 0, _, _ => none
  | n + 1, x1, M => (if (rg M 12 0 0) ≤ x1 then some M else zgd (zin x1 10 && (zin x1 10 && true)) (m12_listen_26 (m12_listen_2 n) zfu x1 (0 : Int32) (rs (rs M 1326 0 (nx x1) (0 : Int32)) 1327 0 (nx x1) (-1 : Int32))))
theorem m12_listen_2_ok {X : zX} {G : zG} (Hy : zHy X G q12_listen zcR 1 22 (none)) {M' : rM} (hE : zEnd X G (none) (zfR M')) : ∀ (n : Nat) (x1 : Int32) (M : rM), m12_listen_2 n x1 M = some M' → zGo (X, q12_listen, G) 0 0 (2, [(0, .inr (.inr (some (12, 0)))), (1, .inl x1)], [], zfR M) := by
  intro n
  induction n with
  | zero => intro x1 M h; cases h
  | succ n ih =>
    intro x1 M h
    unfold m12_listen_2 at h
    refine zblq Hy.1 Hy.2.1 [(.iload 1, 1), (.aload 0, 1), (.multianewarray 12 0, 3)] (S' := (7, [(0, .inr (.inr (some (12, 0)))), (1, .inl x1)], [.inl (rg M 12 0 0), .inl x1], zfR M)) (b := true) (by decide +kernel) rfl rfl ?_
    refine zic_ge Hy.1 (off := 116) (tgt := 123) (by decide +kernel) (by decide) (fun hb17 => ?_) (fun hb17 => ?_)
    · replace h := zite_t h hb17
      cases h
      exact zret_v Hy.1 Hy.2.2 hE (by decide +kernel)
    · replace h := zite_f h hb17
      obtain ⟨hg1, h⟩ := zgd_inv h
      refine zblq Hy.1 Hy.2.1 [(.aload 0, 1), (.getfield 1226, 3), (.iload 1, 1), (.iconst 0, 1), (.iastore, 1), (.aload 0, 1), (.getfield 1227, 3), (.iload 1, 1), (.iconst (-1), 1), (.iastore, 1), (.iconst 0, 1), (.istore 2, 1)] (S' := (26, [(0, .inr (.inr (some (12, 0)))), (1, .inl x1), (2, .inl (0 : Int32))], [], zfR (rs (rs M 1326 0 (nx x1) (0 : Int32)) 1327 0 (nx x1) (-1 : Int32)))) (b := zin x1 10 && (zin x1 10 && true)) (by decide +kernel) rfl hg1 ?_
      refine zGo_keep [0, 1, 2] rfl ?_
      exact m12_listen_26_ok Hy hE ih zfu x1 (0 : Int32) (rs (rs M 1326 0 (nx x1) (0 : Int32)) 1327 0 (nx x1) (-1 : Int32)) h
def m12_listen  (M : rM) : Option rM := m12_listen_2 zfu (0 : Int32) M
theorem m12_listen_ok {X : zX} {G : zG} (Hy : zHy X G q12_listen zcR 1 22 (none)) {M' : rM} (hE : zEnd X G (none) (zfR M'))  (M : rM) (h : m12_listen M = some M') : zGo (X, q12_listen, G) 0 0 (0, [(0, .inr (.inr (some (12, 0))))], [], zfR M) := by
  unfold m12_listen at h
  refine zblq Hy.1 Hy.2.1 [(.iconst 0, 1), (.istore 1, 1)] (S' := (2, [(0, .inr (.inr (some (12, 0)))), (1, .inl (0 : Int32))], [], zfR M)) (b := true) (by decide +kernel) rfl rfl ?_
  refine zGo_keep [0, 1] rfl ?_
  exact m12_listen_2_ok Hy hE zfu (0 : Int32) M h
theorem m12_listen_met {l : Launch} {G : zG} (hG : zGok G) (hcn : zgcn G = zcR)  {M : rM} {M' : rM} (h : m12_listen M = some M') : zMet l G yX12_listen cX12_listen 3 (none) 1 22 [.inr (.inr (some (12, 0)))] (zfR M) (none) (zfR M') :=
  zMet_of hG tbX12_ok rfl (by decide +kernel) (Nat.le_of_ble_eq_true rfl) (fun X _ Z hA hE => m12_listen_ok ⟨Z, hcn, hA⟩ hE M h)
abbrev q12_getWord : ByteArray × Nat × String × zT := (cX12_getWord, 5, RX12, tbX12)
def m12_getWord_226 (x1 : Int32) (x2 : Int32) (M : rM) : Option rM := zgd (zin x1 10 && true) ((if (rg M 1314 0 (nx x1)) = (4 : Int32) then zgd (zin (4 : Int32) 8 && (zin (4 : Int32) 8 && true)) (some (rs M 1319 0 (nx (4 : Int32)) ((rg M 1319 0 (nx (4 : Int32))) + (1 : Int32)))) else zbv (m12_putOnRow x1 x2 M) (fun M3 => some M3)))
theorem m12_getWord_226_ok {X : zX} {G : zG} (Hy : zHy X G q12_getWord zcR 1 28 (none)) {M' : rM} (hE : zEnd X G (none) (zfR M')) (x1 : Int32) (x2 : Int32) (M : rM) (h : m12_getWord_226 x1 x2 M = some M') : zGo (X, q12_getWord, G) 0 0 (226, [(0, .inr (.inr (some (12, 0)))), (1, .inl x1), (2, .inl x2)], [], zfR M) := by
  unfold m12_getWord_226 at h
  obtain ⟨hg2, h⟩ := zgd_inv h
  refine zblq Hy.1 Hy.2.1 [(.aload 0, 1), (.getfield 1214, 3), (.iload 1, 1), (.iaload, 1), (.iconst 4, 1)] (S' := (233, [(0, .inr (.inr (some (12, 0)))), (1, .inl x1), (2, .inl x2)], [.inl (4 : Int32), .inl (rg M 1314 0 (nx x1))], zfR M)) (b := zin x1 10 && true) (by decide +kernel) rfl hg2 ?_
  refine zic_ne Hy.1 (off := 16) (tgt := 249) (by decide +kernel) (by decide) (fun hb5 => ?_) (fun hb5 => ?_)
  · replace h := zite_f h hb5
    refine zblq Hy.1 Hy.2.1 [(.aload 0, 1), (.iload 1, 1), (.iload 2, 1), (.aload 0, 1), (.getfield 1225, 3)] (S' := (256, [(0, .inr (.inr (some (12, 0)))), (1, .inl x1), (2, .inl x2)], [.inr (.inr (some (1325, 0))), .inl x2, .inl x1, .inr (.inr (some (12, 0)))], zfR M)) (b := true) (by decide +kernel) rfl rfl ?_
    obtain ⟨M3, hc3, h⟩ := zbv_inv h
    refine zcallV Hy.1 (as := [.inl x1, .inl x2, .inr (.inr (some (1325, 0)))]) (st := []) (m12_putOnRow_met (zOK_G Hy.1) Hy.2.1 hc3) cw12_235 m12_putOnRow_in m12_putOnRow_se (by decide) (zhlv Hy.2.1 rfl) rfl (zroom Hy.2.2 ⟨by decide, by decide⟩) rfl (by decide +kernel) ⟨Nat.zero_le _, Nat.zero_le _⟩ ?_
    cases h
    exact zret_v Hy.1 Hy.2.2 hE (by decide +kernel)
  · replace h := zite_t h hb5
    obtain ⟨hg4, h⟩ := zgd_inv h
    refine zblq Hy.1 Hy.2.1 [(.aload 0, 1), (.getfield 1219, 3), (.iconst 4, 1), (.dup2, 1), (.iaload, 1), (.iconst 1, 1), (.iadd, 1), (.iastore, 1), (.ldc 259, 3)] (S' := (259, [(0, .inr (.inr (some (12, 0)))), (1, .inl x1), (2, .inl x2)], [], zfR (rs M 1319 0 (nx (4 : Int32)) ((rg M 1319 0 (nx (4 : Int32))) + (1 : Int32))))) (b := zin (4 : Int32) 8 && (zin (4 : Int32) 8 && true)) (by decide +kernel) rfl hg4 ?_
    cases h
    exact zret_v Hy.1 Hy.2.2 hE (by decide +kernel)
def m12_getWord_148 (t1 : Int32) (t2 : Int32) (M : rM) : Option rM := some (rs M 12 0 20 (t1 + t2))
theorem m12_getWord_148_ok {X : zX} {G : zG} (Hy : zHy X G q12_getWord zcR 1 28 (none)) {M' : rM} (hE : zEnd X G (none) (zfR M')) (t1 : Int32) (t2 : Int32) (M : rM) (h : m12_getWord_148 t1 t2 M = some M') : zGo (X, q12_getWord, G) 0 0 (148, [], [.inl t2, .inl t1, .inr (.inr (some (12, 0)))], zfR M) := by
  unfold m12_getWord_148 at h
  refine zblq Hy.1 Hy.2.1 [(.iadd, 1), (.invokeinterface 12 20, 3), (.ldc 259, 3)] (S' := (259, [], [], zfR (rs M 12 0 20 (t1 + t2)))) (b := true) (by decide +kernel) rfl rfl ?_
  cases h
  exact zret_v Hy.1 Hy.2.2 hE (by decide +kernel)
def m12_getWord_88 : Nat → Int32 → Int32 → rM → Option rM
  | 0, _, _, _ => none
  | n + 1, x2, x4, M => (if x4 ≤ 0 then zgd (zin (x2 + (1 : Int32)) 60 && (zin (0 : Int32) 12 && true)) ((if (12 : Int32) ≤ (rg (rs M 1321 0 (nx (0 : Int32)) (rg M 1325 0 (nx (x2 + (1 : Int32))))) 12 0 20) then m12_getWord_148 (rg (rs M 1321 0 (nx (0 : Int32)) (rg M 1325 0 (nx (x2 + (1 : Int32))))) 12 0 20) (0 : Int32) (rs M 1321 0 (nx (0 : Int32)) (rg M 1325 0 (nx (x2 + (1 : Int32))))) else m12_getWord_148 (rg (rs M 1321 0 (nx (0 : Int32)) (rg M 1325 0 (nx (x2 + (1 : Int32))))) 12 0 20) (1 : Int32) (rs M 1321 0 (nx (0 : Int32)) (rg M 1325 0 (nx (x2 + (1 : Int32))))))) else zgd (zin (x4 - (1 : Int32)) 12 && (zin x4 12 && true)) ((m12_getWord_88 n) x2 (x4 + (-1 : Int32)) (rs M 1321 0 (nx x4) (rg M 1321 0 (nx (x4 - (1 : Int32)))))))
theorem m12_getWord_88_ok {X : zX} {G : zG} (Hy : zHy X G q12_getWord zcR 1 28 (none)) {M' : rM} (hE : zEnd X G (none) (zfR M')) : ∀ (n : Nat) (x2 : Int32) (x4 : Int32) (M : rM), m12_getWord_88 n x2 x4 M = some M' → zGo (X, q12_getWord, G) 0 0 (88, [(0, .inr (.inr (some (12, 0)))), (2, .inl x2), (4, .inl x4)], [], zfR M) := by
  intro n
  induction n with
  | zero => intro x2 x4 M h; cases h
  | succ n ih =>
    intro x2 x4 M h
    unfold m12_getWord_88 at h
    refine zblq Hy.1 Hy.2.1 [(.iload 4, 2)] (S' := (90, [(0, .inr (.inr (some (12, 0)))), (2, .inl x2), (4, .inl x4)], [.inl x4], zfR M)) (b := true) (by decide +kernel) rfl rfl ?_
    refine zif_le Hy.1 (off := 25) (tgt := 115) (by decide +kernel) (by decide) (fun hb17 => ?_) (fun hb17 => ?_)
    · replace h := zite_t h hb17
      obtain ⟨hg14, h⟩ := zgd_inv h
      refine zblq Hy.1 Hy.2.1 [(.aload 0, 1), (.getfield 1221, 3), (.iconst 0, 1), (.aload 0, 1), (.getfield 1225, 3), (.iload 2, 1), (.iconst 1, 1), (.iadd, 1), (.iaload, 1), (.iastore, 1), (.aload 0, 1), (.dup, 1), (.multianewarray 12 20, 3), (.aload 0, 1), (.multianewarray 12 20, 3), (.iconst 12, 2)] (S' := (140, [(0, .inr (.inr (some (12, 0)))), (2, .inl x2), (4, .inl x4)], [.inl (12 : Int32), .inl (rg (rs M 1321 0 (nx (0 : Int32)) (rg M 1325 0 (nx (x2 + (1 : Int32))))) 12 0 20), .inl (rg (rs M 1321 0 (nx (0 : Int32)) (rg M 1325 0 (nx (x2 + (1 : Int32))))) 12 0 20), .inr (.inr (some (12, 0)))], zfR (rs M 1321 0 (nx (0 : Int32)) (rg M 1325 0 (nx (x2 + (1 : Int32))))))) (b := zin (x2 + (1 : Int32)) 60 && (zin (0 : Int32) 12 && true)) (by decide +kernel) rfl hg14 ?_
      refine zic_ge Hy.1 (off := 7) (tgt := 147) (by decide +kernel) (by decide) (fun hb15 => ?_) (fun hb15 => ?_)
      · replace h := zite_t h hb15
        refine zblq Hy.1 Hy.2.1 [(.iconst 0, 1)] (S' := (148, [(0, .inr (.inr (some (12, 0)))), (2, .inl x2), (4, .inl x4)], [.inl (0 : Int32), .inl (rg (rs M 1321 0 (nx (0 : Int32)) (rg M 1325 0 (nx (x2 + (1 : Int32))))) 12 0 20), .inr (.inr (some (12, 0)))], zfR (rs M 1321 0 (nx (0 : Int32)) (rg M 1325 0 (nx (x2 + (1 : Int32))))))) (b := true) (by decide +kernel) rfl rfl ?_
        refine zGo_keep [] rfl ?_
        exact m12_getWord_148_ok Hy hE (rg (rs M 1321 0 (nx (0 : Int32)) (rg M 1325 0 (nx (x2 + (1 : Int32))))) 12 0 20) (0 : Int32) (rs M 1321 0 (nx (0 : Int32)) (rg M 1325 0 (nx (x2 + (1 : Int32))))) h
      · replace h := zite_f h hb15
        refine zblq Hy.1 Hy.2.1 [(.iconst 1, 1), (.ldc 148, 3)] (S' := (148, [(0, .inr (.inr (some (12, 0)))), (2, .inl x2), (4, .inl x4)], [.inl (1 : Int32), .inl (rg (rs M 1321 0 (nx (0 : Int32)) (rg M 1325 0 (nx (x2 + (1 : Int32))))) 12 0 20), .inr (.inr (some (12, 0)))], zfR (rs M 1321 0 (nx (0 : Int32)) (rg M 1325 0 (nx (x2 + (1 : Int32))))))) (b := true) (by decide +kernel) rfl rfl ?_
        refine zGo_keep [] rfl ?_
        exact m12_getWord_148_ok Hy hE (rg (rs M 1321 0 (nx (0 : Int32)) (rg M 1325 0 (nx (x2 + (1 : Int32))))) 12 0 20) (1 : Int32) (rs M 1321 0 (nx (0 : Int32)) (rg M 1325 0 (nx (x2 + (1 : Int32))))) h
    · replace h := zite_f h hb17
      obtain ⟨hg16, h⟩ := zgd_inv h
      refine zblq Hy.1 Hy.2.1 [(.aload 0, 1), (.getfield 1221, 3), (.iload 4, 2), (.aload 0, 1), (.getfield 1221, 3), (.iload 4, 2), (.iconst 1, 1), (.isub, 1), (.iaload, 1), (.iastore, 1), (.iinc 4 (-1), 3), (.ldc 88, 3)] (S' := (88, [(0, .inr (.inr (some (12, 0)))), (2, .inl x2), (4, .inl (x4 + (-1 : Int32)))], [], zfR (rs M 1321 0 (nx x4) (rg M 1321 0 (nx (x4 - (1 : Int32))))))) (b := zin (x4 - (1 : Int32)) 12 && (zin x4 12 && true)) (by decide +kernel) rfl hg16 ?_
      refine zGo_keep [0, 2, 4] rfl ?_
      exact ih x2 (x4 + (-1 : Int32)) (rs M 1321 0 (nx x4) (rg M 1321 0 (nx (x4 - (1 : Int32))))) h
def m12_getWord_15 (x1 : Int32) (x2 : Int32) (t0 : Int32) (M : rM) : Option rM := (if x1 = 0 then zgd (zin (6 : Int32) 8 && (zin (6 : Int32) 8 && true)) ((if t0 = 0 then m12_getWord_88 zfu x2 (11 : Int32) (rs M 1319 0 (nx (6 : Int32)) ((rg M 1319 0 (nx (6 : Int32))) + (1 : Int32))) else zgd (zin (x2 + (1 : Int32)) 60 && (zin (x2 + (2 : Int32)) 60 && (zin (x2 + (3 : Int32)) 60 && (zin (x2 + (4 : Int32)) 60 && (zin (x2 + (5 : Int32)) 60 && true))))) (zbv (m12_join (10 : Int32) (rg (rs M 1319 0 (nx (6 : Int32)) ((rg M 1319 0 (nx (6 : Int32))) + (1 : Int32))) 1325 0 (nx (x2 + (1 : Int32)))) (rg (rs M 1319 0 (nx (6 : Int32)) ((rg M 1319 0 (nx (6 : Int32))) + (1 : Int32))) 1325 0 (nx (x2 + (2 : Int32)))) (rg (rs M 1319 0 (nx (6 : Int32)) ((rg M 1319 0 (nx (6 : Int32))) + (1 : Int32))) 1325 0 (nx (x2 + (3 : Int32)))) (rg (rs M 1319 0 (nx (6 : Int32)) ((rg M 1319 0 (nx (6 : Int32))) + (1 : Int32))) 1325 0 (nx (x2 + (4 : Int32)))) (rg (rs M 1319 0 (nx (6 : Int32)) ((rg M 1319 0 (nx (6 : Int32))) + (1 : Int32))) 1325 0 (nx (x2 + (5 : Int32)))) (rs M 1319 0 (nx (6 : Int32)) ((rg M 1319 0 (nx (6 : Int32))) + (1 : Int32)))) (fun M19 => some M19)))) else (if t0 = 0 then m12_getWord_226 x1 x2 M else zgd (zin x1 10 && true) ((if (rg M 1301 0 (nx x1)) = (1 : Int32) then zgd (zin x1 10 && true) ((if (rg M 1317 0 (nx x1)) = 0 then zgd (zin (x2 + (1 : Int32)) 60 && (zin (x2 + (2 : Int32)) 60 && (zin (x2 + (3 : Int32)) 60 && (zin (x2 + (4 : Int32)) 60 && (zin (x2 + (5 : Int32)) 60 && true))))) (zbv (m12_join x1 (rg M 1325 0 (nx (x2 + (1 : Int32)))) (rg M 1325 0 (nx (x2 + (2 : Int32)))) (rg M 1325 0 (nx (x2 + (3 : Int32)))) (rg M 1325 0 (nx (x2 + (4 : Int32)))) (rg M 1325 0 (nx (x2 + (5 : Int32)))) M) (fun M9 => some M9)) else m12_getWord_226 x1 x2 M)) else m12_getWord_226 x1 x2 M))))
theorem m12_getWord_15_ok {X : zX} {G : zG} (Hy : zHy X G q12_getWord zcR 1 28 (none)) {M' : rM} (hE : zEnd X G (none) (zfR M')) (x1 : Int32) (x2 : Int32) (t0 : Int32) (M : rM) (h : m12_getWord_15 x1 x2 t0 M = some M') : zGo (X, q12_getWord, G) 0 0 (15, [(0, .inr (.inr (some (12, 0)))), (1, .inl x1), (2, .inl x2)], [.inl t0], zfR M) := by
  unfold m12_getWord_15 at h
  refine zblq Hy.1 Hy.2.1 [(.istore 3, 1), (.iload 1, 1)] (S' := (17, [(0, .inr (.inr (some (12, 0)))), (1, .inl x1), (2, .inl x2), (3, .inl t0)], [.inl x1], zfR M)) (b := true) (by decide +kernel) rfl rfl ?_
  refine zif_ne Hy.1 (off := 138) (tgt := 155) (by decide +kernel) (by decide) (fun hb21 => ?_) (fun hb21 => ?_)
  · replace h := zite_f h hb21
    refine zblq Hy.1 Hy.2.1 [(.iload 3, 1)] (S' := (156, [(0, .inr (.inr (some (12, 0)))), (1, .inl x1), (2, .inl x2), (3, .inl t0)], [.inl t0], zfR M)) (b := true) (by decide +kernel) rfl rfl ?_
    refine zif_eq Hy.1 (off := 70) (tgt := 226) (by decide +kernel) (by decide) (fun hb12 => ?_) (fun hb12 => ?_)
    · replace h := zite_t h hb12
      refine zGo_keep [0, 1, 2] rfl ?_
      exact m12_getWord_226_ok Hy hE x1 x2 M h
    · replace h := zite_f h hb12
      obtain ⟨hg6, h⟩ := zgd_inv h
      refine zblq Hy.1 Hy.2.1 [(.aload 0, 1), (.getfield 1201, 3), (.iload 1, 1), (.iaload, 1), (.iconst 1, 1)] (S' := (166, [(0, .inr (.inr (some (12, 0)))), (1, .inl x1), (2, .inl x2), (3, .inl t0)], [.inl (1 : Int32), .inl (rg M 1301 0 (nx x1))], zfR M)) (b := zin x1 10 && true) (by decide +kernel) rfl hg6 ?_
      refine zic_ne Hy.1 (off := 60) (tgt := 226) (by decide +kernel) (by decide) (fun hb11 => ?_) (fun hb11 => ?_)
      · replace h := zite_f h hb11
        refine zGo_keep [0, 1, 2] rfl ?_
        exact m12_getWord_226_ok Hy hE x1 x2 M h
      · replace h := zite_t h hb11
        obtain ⟨hg7, h⟩ := zgd_inv h
        refine zblq Hy.1 Hy.2.1 [(.aload 0, 1), (.getfield 1217, 3), (.iload 1, 1), (.baload, 1)] (S' := (175, [(0, .inr (.inr (some (12, 0)))), (1, .inl x1), (2, .inl x2), (3, .inl t0)], [.inl (rg M 1317 0 (nx x1))], zfR M)) (b := zin x1 10 && true) (by decide +kernel) rfl hg7 ?_
        refine zif_ne Hy.1 (off := 51) (tgt := 226) (by decide +kernel) (by decide) (fun hb10 => ?_) (fun hb10 => ?_)
        · replace h := zite_f h hb10
          refine zGo_keep [0, 1, 2] rfl ?_
          exact m12_getWord_226_ok Hy hE x1 x2 M h
        · replace h := zite_t h hb10
          obtain ⟨hg8, h⟩ := zgd_inv h
          refine zblq Hy.1 Hy.2.1 [(.aload 0, 1), (.iload 1, 1), (.aload 0, 1), (.getfield 1225, 3), (.iload 2, 1), (.iconst 1, 1), (.iadd, 1), (.iaload, 1), (.aload 0, 1), (.getfield 1225, 3), (.iload 2, 1), (.iconst 2, 1), (.iadd, 1), (.iaload, 1), (.aload 0, 1), (.getfield 1225, 3), (.iload 2, 1), (.iconst 3, 1), (.iadd, 1), (.iaload, 1), (.aload 0, 1), (.getfield 1225, 3), (.iload 2, 1), (.iconst 4, 1), (.iadd, 1), (.iaload, 1), (.aload 0, 1), (.getfield 1225, 3), (.iload 2, 1), (.iconst 5, 1), (.iadd, 1), (.iaload, 1)] (S' := (220, [(0, .inr (.inr (some (12, 0)))), (1, .inl x1), (2, .inl x2), (3, .inl t0)], [.inl (rg M 1325 0 (nx (x2 + (5 : Int32)))), .inl (rg M 1325 0 (nx (x2 + (4 : Int32)))), .inl (rg M 1325 0 (nx (x2 + (3 : Int32)))), .inl (rg M 1325 0 (nx (x2 + (2 : Int32)))), .inl (rg M 1325 0 (nx (x2 + (1 : Int32)))), .inl x1, .inr (.inr (some (12, 0)))], zfR M)) (b := zin (x2 + (1 : Int32)) 60 && (zin (x2 + (2 : Int32)) 60 && (zin (x2 + (3 : Int32)) 60 && (zin (x2 + (4 : Int32)) 60 && (zin (x2 + (5 : Int32)) 60 && true))))) (by decide +kernel) rfl hg8 ?_
          obtain ⟨M9, hc9, h⟩ := zbv_inv h
          refine zcallV Hy.1 (as := [.inl x1, .inl (rg M 1325 0 (nx (x2 + (1 : Int32)))), .inl (rg M 1325 0 (nx (x2 + (2 : Int32)))), .inl (rg M 1325 0 (nx (x2 + (3 : Int32)))), .inl (rg M 1325 0 (nx (x2 + (4 : Int32)))), .inl (rg M 1325 0 (nx (x2 + (5 : Int32))))]) (st := []) (m12_join_met (zOK_G Hy.1) Hy.2.1 hc9) cw12_221 m12_join_in m12_join_se (by decide) (zhlv Hy.2.1 rfl) rfl (zroom Hy.2.2 ⟨by decide, by decide⟩) rfl (by decide +kernel) ⟨Nat.zero_le _, Nat.zero_le _⟩ ?_
          refine zblq Hy.1 Hy.2.1 [(.ldc 259, 3)] (S' := (259, [(0, .inr (.inr (some (12, 0)))), (1, .inl x1), (2, .inl x2), (3, .inl t0)], [], zfR M9)) (b := true) (by decide +kernel) rfl rfl ?_
          cases h
          exact zret_v Hy.1 Hy.2.2 hE (by decide +kernel)
  · replace h := zite_t h hb21
    obtain ⟨hg13, h⟩ := zgd_inv h
    refine zblq Hy.1 Hy.2.1 [(.aload 0, 1), (.getfield 1219, 3), (.iconst 6, 2), (.dup2, 1), (.iaload, 1), (.iconst 1, 1), (.iadd, 1), (.iastore, 1), (.iload 3, 1)] (S' := (32, [(0, .inr (.inr (some (12, 0)))), (1, .inl x1), (2, .inl x2), (3, .inl t0)], [.inl t0], zfR (rs M 1319 0 (nx (6 : Int32)) ((rg M 1319 0 (nx (6 : Int32))) + (1 : Int32))))) (b := zin (6 : Int32) 8 && (zin (6 : Int32) 8 && true)) (by decide +kernel) rfl hg13 ?_
    refine zif_eq Hy.1 (off := 52) (tgt := 84) (by decide +kernel) (by decide) (fun hb20 => ?_) (fun hb20 => ?_)
    · replace h := zite_t h hb20
      refine zblq Hy.1 Hy.2.1 [(.iconst 11, 2), (.istore 4, 2)] (S' := (88, [(0, .inr (.inr (some (12, 0)))), (1, .inl x1), (2, .inl x2), (3, .inl t0), (4, .inl (11 : Int32))], [], zfR (rs M 1319 0 (nx (6 : Int32)) ((rg M 1319 0 (nx (6 : Int32))) + (1 : Int32))))) (b := true) (by decide +kernel) rfl rfl ?_
      refine zGo_keep [0, 2, 4] rfl ?_
      exact m12_getWord_88_ok Hy hE zfu x2 (11 : Int32) (rs M 1319 0 (nx (6 : Int32)) ((rg M 1319 0 (nx (6 : Int32))) + (1 : Int32))) h
    · replace h := zite_f h hb20
      obtain ⟨hg18, h⟩ := zgd_inv h
      refine zblq Hy.1 Hy.2.1 [(.aload 0, 1), (.iconst 10, 2), (.aload 0, 1), (.getfield 1225, 3), (.iload 2, 1), (.iconst 1, 1), (.iadd, 1), (.iaload, 1), (.aload 0, 1), (.getfield 1225, 3), (.iload 2, 1), (.iconst 2, 1), (.iadd, 1), (.iaload, 1), (.aload 0, 1), (.getfield 1225, 3), (.iload 2, 1), (.iconst 3, 1), (.iadd, 1), (.iaload, 1), (.aload 0, 1), (.getfield 1225, 3), (.iload 2, 1), (.iconst 4, 1), (.iadd, 1), (.iaload, 1), (.aload 0, 1), (.getfield 1225, 3), (.iload 2, 1), (.iconst 5, 1), (.iadd, 1), (.iaload, 1)] (S' := (78, [(0, .inr (.inr (some (12, 0)))), (1, .inl x1), (2, .inl x2), (3, .inl t0)], [.inl (rg (rs M 1319 0 (nx (6 : Int32)) ((rg M 1319 0 (nx (6 : Int32))) + (1 : Int32))) 1325 0 (nx (x2 + (5 : Int32)))), .inl (rg (rs M 1319 0 (nx (6 : Int32)) ((rg M 1319 0 (nx (6 : Int32))) + (1 : Int32))) 1325 0 (nx (x2 + (4 : Int32)))), .inl (rg (rs M 1319 0 (nx (6 : Int32)) ((rg M 1319 0 (nx (6 : Int32))) + (1 : Int32))) 1325 0 (nx (x2 + (3 : Int32)))), .inl (rg (rs M 1319 0 (nx (6 : Int32)) ((rg M 1319 0 (nx (6 : Int32))) + (1 : Int32))) 1325 0 (nx (x2 + (2 : Int32)))), .inl (rg (rs M 1319 0 (nx (6 : Int32)) ((rg M 1319 0 (nx (6 : Int32))) + (1 : Int32))) 1325 0 (nx (x2 + (1 : Int32)))), .inl (10 : Int32), .inr (.inr (some (12, 0)))], zfR (rs M 1319 0 (nx (6 : Int32)) ((rg M 1319 0 (nx (6 : Int32))) + (1 : Int32))))) (b := zin (x2 + (1 : Int32)) 60 && (zin (x2 + (2 : Int32)) 60 && (zin (x2 + (3 : Int32)) 60 && (zin (x2 + (4 : Int32)) 60 && (zin (x2 + (5 : Int32)) 60 && true))))) (by decide +kernel) rfl hg18 ?_
      obtain ⟨M19, hc19, h⟩ := zbv_inv h
      refine zcallV Hy.1 (as := [.inl (10 : Int32), .inl (rg (rs M 1319 0 (nx (6 : Int32)) ((rg M 1319 0 (nx (6 : Int32))) + (1 : Int32))) 1325 0 (nx (x2 + (1 : Int32)))), .inl (rg (rs M 1319 0 (nx (6 : Int32)) ((rg M 1319 0 (nx (6 : Int32))) + (1 : Int32))) 1325 0 (nx (x2 + (2 : Int32)))), .inl (rg (rs M 1319 0 (nx (6 : Int32)) ((rg M 1319 0 (nx (6 : Int32))) + (1 : Int32))) 1325 0 (nx (x2 + (3 : Int32)))), .inl (rg (rs M 1319 0 (nx (6 : Int32)) ((rg M 1319 0 (nx (6 : Int32))) + (1 : Int32))) 1325 0 (nx (x2 + (4 : Int32)))), .inl (rg (rs M 1319 0 (nx (6 : Int32)) ((rg M 1319 0 (nx (6 : Int32))) + (1 : Int32))) 1325 0 (nx (x2 + (5 : Int32))))]) (st := []) (m12_join_met (zOK_G Hy.1) Hy.2.1 hc19) cw12_221 m12_join_in m12_join_se (by decide) (zhlv Hy.2.1 rfl) rfl (zroom Hy.2.2 ⟨by decide, by decide⟩) rfl (by decide +kernel) ⟨Nat.zero_le _, Nat.zero_le _⟩ ?_
      refine zblq Hy.1 Hy.2.1 [(.ldc 259, 3)] (S' := (259, [(0, .inr (.inr (some (12, 0)))), (1, .inl x1), (2, .inl x2), (3, .inl t0)], [], zfR M19)) (b := true) (by decide +kernel) rfl rfl ?_
      cases h
      exact zret_v Hy.1 Hy.2.2 hE (by decide +kernel)
def m12_getWord (x1 : Int32) (x2 : Int32) (M : rM) : Option rM := zgd (zin x2 60 && true) ((if (rg M 1325 0 (nx x2)) = (1 : Int32) then m12_getWord_15 x1 x2 (1 : Int32) M else m12_getWord_15 x1 x2 (0 : Int32) M))
theorem m12_getWord_ok {X : zX} {G : zG} (Hy : zHy X G q12_getWord zcR 1 28 (none)) {M' : rM} (hE : zEnd X G (none) (zfR M')) (x1 : Int32) (x2 : Int32) (M : rM) (h : m12_getWord x1 x2 M = some M') : zGo (X, q12_getWord, G) 0 0 (0, [(0, .inr (.inr (some (12, 0)))), (1, .inl x1), (2, .inl x2)], [], zfR M) := by
  unfold m12_getWord at h
  obtain ⟨hg1, h⟩ := zgd_inv h
  refine zblq Hy.1 Hy.2.1 [(.aload 0, 1), (.getfield 1225, 3), (.iload 2, 1), (.iaload, 1), (.iconst 1, 1)] (S' := (7, [(0, .inr (.inr (some (12, 0)))), (1, .inl x1), (2, .inl x2)], [.inl (1 : Int32), .inl (rg M 1325 0 (nx x2))], zfR M)) (b := zin x2 60 && true) (by decide +kernel) rfl hg1 ?_
  refine zic_ne Hy.1 (off := 7) (tgt := 14) (by decide +kernel) (by decide) (fun hb22 => ?_) (fun hb22 => ?_)
  · replace h := zite_f h hb22
    refine zblq Hy.1 Hy.2.1 [(.iconst 0, 1)] (S' := (15, [(0, .inr (.inr (some (12, 0)))), (1, .inl x1), (2, .inl x2)], [.inl (0 : Int32)], zfR M)) (b := true) (by decide +kernel) rfl rfl ?_
    refine zGo_keep [0, 1, 2] rfl ?_
    exact m12_getWord_15_ok Hy hE x1 x2 (0 : Int32) M h
  · replace h := zite_t h hb22
    refine zblq Hy.1 Hy.2.1 [(.iconst 1, 1), (.ldc 15, 3)] (S' := (15, [(0, .inr (.inr (some (12, 0)))), (1, .inl x1), (2, .inl x2)], [.inl (1 : Int32)], zfR M)) (b := true) (by decide +kernel) rfl rfl ?_
    refine zGo_keep [0, 1, 2] rfl ?_
    exact m12_getWord_15_ok Hy hE x1 x2 (1 : Int32) M h
theorem m12_getWord_met {l : Launch} {G : zG} (hG : zGok G) (hcn : zgcn G = zcR) {x1 : Int32} {x2 : Int32} {M : rM} {M' : rM} (h : m12_getWord x1 x2 M = some M') : zMet l G yX12_getWord cX12_getWord 5 (none) 1 28 [.inr (.inr (some (12, 0))), .inl x1, .inl x2] (zfR M) (none) (zfR M') :=
  zMet_of hG tbX12_ok rfl (by decide +kernel) (Nat.le_of_ble_eq_true rfl) (fun X _ Z hA hE => m12_getWord_ok ⟨Z, hcn, hA⟩ hE x1 x2 M h)
abbrev q12_deliver : ByteArray × Nat × String × zT := (cX12_deliver, 3, RX12, tbX12)
def m12_deliver_96  (M : rM) : Option rM := zgd (zin (3 : Int32) 8 && (zin (3 : Int32) 8 && true)) (some (rs M 1319 0 (nx (3 : Int32)) ((rg M 1319 0 (nx (3 : Int32))) + (1 : Int32))))
theorem m12_deliver_96_ok {X : zX} {G : zG} (Hy : zHy X G q12_deliver zcR 2 52 (none)) {M' : rM} (hE : zEnd X G (none) (zfR M'))  (M : rM) (h : m12_deliver_96 M = some M') : zGo (X, q12_deliver, G) 0 0 (96, [(0, .inr (.inr (some (12, 0))))], [], zfR M) := by
  unfold m12_deliver_96 at h
  obtain ⟨hg6, h⟩ := zgd_inv h
  refine zblq Hy.1 Hy.2.1 [(.aload 0, 1), (.getfield 1219, 3), (.iconst 3, 1), (.dup2, 1), (.iaload, 1), (.iconst 1, 1), (.iadd, 1), (.iastore, 1), (.ldc 118, 3)] (S' := (118, [(0, .inr (.inr (some (12, 0))))], [], zfR (rs M 1319 0 (nx (3 : Int32)) ((rg M 1319 0 (nx (3 : Int32))) + (1 : Int32))))) (b := zin (3 : Int32) 8 && (zin (3 : Int32) 8 && true)) (by decide +kernel) rfl hg6 ?_
  cases h
  exact zret_v Hy.1 Hy.2.2 hE (by decide +kernel)
def m12_deliver (x1 : Int32) (M : rM) : Option rM := zgd (zin x1 10 && (zin (rg M 1309 0 (nx x1)) 10 && true)) ((if (rg M 1323 0 (nx (rg M 1309 0 (nx x1)))) = 0 then zgd (zin (rg M 1309 0 (nx x1)) 10 && true) (zbd (m12_isIn (rg M 1307 0 (nx (rg M 1309 0 (nx x1)))) x1 M) (fun r3 M3 => (if r3 = 0 then zgd (zin (1 : Int32) 8 && (zin (1 : Int32) 8 && true)) (some (rs M3 1319 0 (nx (1 : Int32)) ((rg M3 1319 0 (nx (1 : Int32))) + (1 : Int32)))) else zgd (zin (rg M 1309 0 (nx x1)) 10 && true) ((if (rg M3 1322 0 (nx (rg M 1309 0 (nx x1)))) = 0 then zgd (zin (2 : Int32) 8 && (zin (2 : Int32) 8 && true)) (some (rs M3 1319 0 (nx (2 : Int32)) ((rg M3 1319 0 (nx (2 : Int32))) + (1 : Int32)))) else zgd (zin (rg M 1309 0 (nx x1)) 10 && true) ((if (rg M3 1324 0 (nx (rg M 1309 0 (nx x1)))) = 0 then zgd (zin (rg M 1309 0 (nx x1)) 10 && true) ((if (rg M3 1326 0 (nx (rg M 1309 0 (nx x1)))) ≤ (1 : Int32) then zbv (m12_getWord (rg M 1309 0 (nx x1)) ((6 : Int32) * x1) M3) (fun M8 => some M8) else m12_deliver_96 M3)) else m12_deliver_96 M3))))))) else zgd (zin (0 : Int32) 8 && (zin (0 : Int32) 8 && true)) (some (rs M 1319 0 (nx (0 : Int32)) ((rg M 1319 0 (nx (0 : Int32))) + (1 : Int32))))))
theorem m12_deliver_ok {X : zX} {G : zG} (Hy : zHy X G q12_deliver zcR 2 52 (none)) {M' : rM} (hE : zEnd X G (none) (zfR M')) (x1 : Int32) (M : rM) (h : m12_deliver x1 M = some M') : zGo (X, q12_deliver, G) 0 0 (0, [(0, .inr (.inr (some (12, 0)))), (1, .inl x1)], [], zfR M) := by
  unfold m12_deliver at h
  obtain ⟨hg1, h⟩ := zgd_inv h
  refine zblq Hy.1 Hy.2.1 [(.aload 0, 1), (.getfield 1209, 3), (.iload 1, 1), (.iaload, 1), (.istore 2, 1), (.aload 0, 1), (.getfield 1223, 3), (.iload 2, 1), (.baload, 1)] (S' := (13, [(0, .inr (.inr (some (12, 0)))), (1, .inl x1), (2, .inl (rg M 1309 0 (nx x1)))], [.inl (rg M 1323 0 (nx (rg M 1309 0 (nx x1))))], zfR M)) (b := zin x1 10 && (zin (rg M 1309 0 (nx x1)) 10 && true)) (by decide +kernel) rfl hg1 ?_
  refine zif_eq Hy.1 (off := 16) (tgt := 29) (by decide +kernel) (by decide) (fun hb16 => ?_) (fun hb16 => ?_)
  · replace h := zite_t h hb16
    obtain ⟨hg2, h⟩ := zgd_inv h
    refine zblq Hy.1 Hy.2.1 [(.aload 0, 1), (.getfield 1207, 3), (.iload 2, 1), (.iaload, 1), (.iload 1, 1)] (S' := (36, [(0, .inr (.inr (some (12, 0)))), (1, .inl x1), (2, .inl (rg M 1309 0 (nx x1)))], [.inl x1, .inl (rg M 1307 0 (nx (rg M 1309 0 (nx x1))))], zfR M)) (b := zin (rg M 1309 0 (nx x1)) 10 && true) (by decide +kernel) rfl hg2 ?_
    obtain ⟨r3, M3, hc3, h⟩ := zbd_inv h
    refine zcallS Hy.1 (as := [.inl (rg M 1307 0 (nx (rg M 1309 0 (nx x1)))), .inl x1]) (st := []) (m12_isIn_met (zOK_G Hy.1) Hy.2.1 hc3) cw12_183 m12_isIn_in rfl (zroom Hy.2.2 ⟨by decide, by decide⟩) rfl (by decide +kernel) ⟨Nat.zero_le _, Nat.zero_le _⟩ ?_
    refine zif_ne Hy.1 (off := 16) (tgt := 55) (by decide +kernel) (by decide) (fun hb14 => ?_) (fun hb14 => ?_)
    · replace h := zite_f h hb14
      obtain ⟨hg4, h⟩ := zgd_inv h
      refine zblq Hy.1 Hy.2.1 [(.aload 0, 1), (.getfield 1222, 3), (.iload 2, 1), (.baload, 1)] (S' := (61, [(0, .inr (.inr (some (12, 0)))), (1, .inl x1), (2, .inl (rg M 1309 0 (nx x1)))], [.inl (rg M3 1322 0 (nx (rg M 1309 0 (nx x1))))], zfR M3)) (b := zin (rg M 1309 0 (nx x1)) 10 && true) (by decide +kernel) rfl hg4 ?_
      refine zif_ne Hy.1 (off := 16) (tgt := 77) (by decide +kernel) (by decide) (fun hb12 => ?_) (fun hb12 => ?_)
      · replace h := zite_f h hb12
        obtain ⟨hg5, h⟩ := zgd_inv h
        refine zblq Hy.1 Hy.2.1 [(.aload 0, 1), (.getfield 1224, 3), (.iload 2, 1), (.baload, 1)] (S' := (83, [(0, .inr (.inr (some (12, 0)))), (1, .inl x1), (2, .inl (rg M 1309 0 (nx x1)))], [.inl (rg M3 1324 0 (nx (rg M 1309 0 (nx x1))))], zfR M3)) (b := zin (rg M 1309 0 (nx x1)) 10 && true) (by decide +kernel) rfl hg5 ?_
        refine zif_ne Hy.1 (off := 13) (tgt := 96) (by decide +kernel) (by decide) (fun hb10 => ?_) (fun hb10 => ?_)
        · replace h := zite_f h hb10
          refine zGo_keep [0] rfl ?_
          exact m12_deliver_96_ok Hy hE M3 h
        · replace h := zite_t h hb10
          obtain ⟨hg7, h⟩ := zgd_inv h
          refine zblq Hy.1 Hy.2.1 [(.aload 0, 1), (.getfield 1226, 3), (.iload 2, 1), (.iaload, 1), (.iconst 1, 1)] (S' := (93, [(0, .inr (.inr (some (12, 0)))), (1, .inl x1), (2, .inl (rg M 1309 0 (nx x1)))], [.inl (1 : Int32), .inl (rg M3 1326 0 (nx (rg M 1309 0 (nx x1))))], zfR M3)) (b := zin (rg M 1309 0 (nx x1)) 10 && true) (by decide +kernel) rfl hg7 ?_
          refine zic_le Hy.1 (off := 16) (tgt := 109) (by decide +kernel) (by decide) (fun hb9 => ?_) (fun hb9 => ?_)
          · replace h := zite_t h hb9
            refine zblq Hy.1 Hy.2.1 [(.aload 0, 1), (.iload 2, 1), (.iconst 6, 2), (.iload 1, 1), (.imul, 1)] (S' := (115, [(0, .inr (.inr (some (12, 0)))), (1, .inl x1), (2, .inl (rg M 1309 0 (nx x1)))], [.inl ((6 : Int32) * x1), .inl (rg M 1309 0 (nx x1)), .inr (.inr (some (12, 0)))], zfR M3)) (b := true) (by decide +kernel) rfl rfl ?_
            obtain ⟨M8, hc8, h⟩ := zbv_inv h
            refine zcallV Hy.1 (as := [.inl (rg M 1309 0 (nx x1)), .inl ((6 : Int32) * x1)]) (st := []) (m12_getWord_met (zOK_G Hy.1) Hy.2.1 hc8) cw12_229 m12_getWord_in m12_getWord_se (by decide) (zhlv Hy.2.1 rfl) rfl (zroom Hy.2.2 ⟨by decide, by decide⟩) rfl (by decide +kernel) ⟨Nat.zero_le _, Nat.zero_le _⟩ ?_
            cases h
            exact zret_v Hy.1 Hy.2.2 hE (by decide +kernel)
          · replace h := zite_f h hb9
            refine zGo_keep [0] rfl ?_
            exact m12_deliver_96_ok Hy hE M3 h
      · replace h := zite_t h hb12
        obtain ⟨hg11, h⟩ := zgd_inv h
        refine zblq Hy.1 Hy.2.1 [(.aload 0, 1), (.getfield 1219, 3), (.iconst 2, 1), (.dup2, 1), (.iaload, 1), (.iconst 1, 1), (.iadd, 1), (.iastore, 1), (.ldc 118, 3)] (S' := (118, [(0, .inr (.inr (some (12, 0)))), (1, .inl x1), (2, .inl (rg M 1309 0 (nx x1)))], [], zfR (rs M3 1319 0 (nx (2 : Int32)) ((rg M3 1319 0 (nx (2 : Int32))) + (1 : Int32))))) (b := zin (2 : Int32) 8 && (zin (2 : Int32) 8 && true)) (by decide +kernel) rfl hg11 ?_
        cases h
        exact zret_v Hy.1 Hy.2.2 hE (by decide +kernel)
    · replace h := zite_t h hb14
      obtain ⟨hg13, h⟩ := zgd_inv h
      refine zblq Hy.1 Hy.2.1 [(.aload 0, 1), (.getfield 1219, 3), (.iconst 1, 1), (.dup2, 1), (.iaload, 1), (.iconst 1, 1), (.iadd, 1), (.iastore, 1), (.ldc 118, 3)] (S' := (118, [(0, .inr (.inr (some (12, 0)))), (1, .inl x1), (2, .inl (rg M 1309 0 (nx x1)))], [], zfR (rs M3 1319 0 (nx (1 : Int32)) ((rg M3 1319 0 (nx (1 : Int32))) + (1 : Int32))))) (b := zin (1 : Int32) 8 && (zin (1 : Int32) 8 && true)) (by decide +kernel) rfl hg13 ?_
      cases h
      exact zret_v Hy.1 Hy.2.2 hE (by decide +kernel)
  · replace h := zite_f h hb16
    obtain ⟨hg15, h⟩ := zgd_inv h
    refine zblq Hy.1 Hy.2.1 [(.aload 0, 1), (.getfield 1219, 3), (.iconst 0, 1), (.dup2, 1), (.iaload, 1), (.iconst 1, 1), (.iadd, 1), (.iastore, 1), (.ldc 118, 3)] (S' := (118, [(0, .inr (.inr (some (12, 0)))), (1, .inl x1), (2, .inl (rg M 1309 0 (nx x1)))], [], zfR (rs M 1319 0 (nx (0 : Int32)) ((rg M 1319 0 (nx (0 : Int32))) + (1 : Int32))))) (b := zin (0 : Int32) 8 && (zin (0 : Int32) 8 && true)) (by decide +kernel) rfl hg15 ?_
    cases h
    exact zret_v Hy.1 Hy.2.2 hE (by decide +kernel)
theorem m12_deliver_met {l : Launch} {G : zG} (hG : zGok G) (hcn : zgcn G = zcR) {x1 : Int32} {M : rM} {M' : rM} (h : m12_deliver x1 M = some M') : zMet l G yX12_deliver cX12_deliver 3 (none) 2 52 [.inr (.inr (some (12, 0))), .inl x1] (zfR M) (none) (zfR M') :=
  zMet_of hG tbX12_ok rfl (by decide +kernel) (Nat.le_of_ble_eq_true rfl) (fun X _ Z hA hE => m12_deliver_ok ⟨Z, hcn, hA⟩ hE x1 M h)
abbrev q12_goTick : ByteArray × Nat × String × zT := (cX12_goTick, 4, RX12, tbX12)
def m12_goTick_153 (k131 : Int32 → rM → Option rM) (x2 : Int32) (M : rM) : Option rM := k131 (x2 + (1 : Int32)) M
theorem m12_goTick_153_ok {X : zX} {G : zG} (Hy : zHy X G q12_goTick zcR 3 74 (none)) {M' : rM} (hE : zEnd X G (none) (zfR M')) {k131 : Int32 → rM → Option rM} (hk131 : ∀ (x2 : Int32) (M : rM), k131 x2 M = some M' → zGo (X, q12_goTick, G) 0 0 (131, [(0, .inr (.inr (some (12, 0)))), (2, .inl x2)], [], zfR M)) (x2 : Int32) (M : rM) (h : m12_goTick_153 k131 x2 M = some M') : zGo (X, q12_goTick, G) 0 0 (153, [(0, .inr (.inr (some (12, 0)))), (2, .inl x2)], [], zfR M) := by
  unfold m12_goTick_153 at h
  refine zblq Hy.1 Hy.2.1 [(.iinc 2 1, 3), (.ldc 131, 3)] (S' := (131, [(0, .inr (.inr (some (12, 0)))), (2, .inl (x2 + (1 : Int32)))], [], zfR M)) (b := true) (by decide +kernel) rfl rfl ?_
  refine zGo_keep [0, 2] rfl ?_
  exact hk131 (x2 + (1 : Int32)) M h
def m12_goTick_131 : Nat → Int32 → rM → Option rM
  | 0, _, _ => none
  | n + 1, x2, M => (if (rg M 12 0 0) ≤ x2 then some M else zgd (zin x2 10 && true) ((if (rg M 1324 0 (nx x2)) = 0 then m12_goTick_153 (m12_goTick_131 n) x2 M else zbv (m12_deliver x2 M) (fun M5 => m12_goTick_153 (m12_goTick_131 n) x2 M5))))
theorem m12_goTick_131_ok {X : zX} {G : zG} (Hy : zHy X G q12_goTick zcR 3 74 (none)) {M' : rM} (hE : zEnd X G (none) (zfR M')) : ∀ (n : Nat) (x2 : Int32) (M : rM), m12_goTick_131 n x2 M = some M' → zGo (X, q12_goTick, G) 0 0 (131, [(0, .inr (.inr (some (12, 0)))), (2, .inl x2)], [], zfR M) := by
  intro n
  induction n with
  | zero => intro x2 M h; cases h
  | succ n ih =>
    intro x2 M h
    unfold m12_goTick_131 at h
    refine zblq Hy.1 Hy.2.1 [(.iload 2, 1), (.aload 0, 1), (.multianewarray 12 0, 3)] (S' := (136, [(0, .inr (.inr (some (12, 0)))), (2, .inl x2)], [.inl (rg M 12 0 0), .inl x2], zfR M)) (b := true) (by decide +kernel) rfl rfl ?_
    refine zic_ge Hy.1 (off := 23) (tgt := 159) (by decide +kernel) (by decide) (fun hb7 => ?_) (fun hb7 => ?_)
    · replace h := zite_t h hb7
      cases h
      exact zret_v Hy.1 Hy.2.2 hE (by decide +kernel)
    · replace h := zite_f h hb7
      obtain ⟨hg4, h⟩ := zgd_inv h
      refine zblq Hy.1 Hy.2.1 [(.aload 0, 1), (.getfield 1224, 3), (.iload 2, 1), (.baload, 1)] (S' := (145, [(0, .inr (.inr (some (12, 0)))), (2, .inl x2)], [.inl (rg M 1324 0 (nx x2))], zfR M)) (b := zin x2 10 && true) (by decide +kernel) rfl hg4 ?_
      refine zif_eq Hy.1 (off := 8) (tgt := 153) (by decide +kernel) (by decide) (fun hb6 => ?_) (fun hb6 => ?_)
      · replace h := zite_t h hb6
        refine zGo_keep [0, 2] rfl ?_
        exact m12_goTick_153_ok Hy hE ih x2 M h
      · replace h := zite_f h hb6
        refine zblq Hy.1 Hy.2.1 [(.aload 0, 1), (.iload 2, 1)] (S' := (150, [(0, .inr (.inr (some (12, 0)))), (2, .inl x2)], [.inl x2, .inr (.inr (some (12, 0)))], zfR M)) (b := true) (by decide +kernel) rfl rfl ?_
        obtain ⟨M5, hc5, h⟩ := zbv_inv h
        refine zcallV Hy.1 (as := [.inl x2]) (st := []) (m12_deliver_met (zOK_G Hy.1) Hy.2.1 hc5) cw12_257 m12_deliver_in m12_deliver_se (by decide) (zhlv Hy.2.1 rfl) rfl (zroom Hy.2.2 ⟨by decide, by decide⟩) rfl (by decide +kernel) ⟨Nat.zero_le _, Nat.zero_le _⟩ ?_
        refine zGo_keep [0, 2] rfl ?_
        exact m12_goTick_153_ok Hy hE ih x2 M5 h
def m12_goTick_116 (x1 : Int32) (M : rM) : Option rM := zbv (m12_queueSums x1 M) (fun M1 => zbv (m12_speak M1) (fun M2 => zbv (m12_listen M2) (fun M3 => m12_goTick_131 zfu (0 : Int32) M3)))
theorem m12_goTick_116_ok {X : zX} {G : zG} (Hy : zHy X G q12_goTick zcR 3 74 (none)) {M' : rM} (hE : zEnd X G (none) (zfR M')) (x1 : Int32) (M : rM) (h : m12_goTick_116 x1 M = some M') : zGo (X, q12_goTick, G) 0 0 (116, [(0, .inr (.inr (some (12, 0)))), (1, .inl x1)], [], zfR M) := by
  unfold m12_goTick_116 at h
  refine zblq Hy.1 Hy.2.1 [(.aload 0, 1), (.iload 1, 1)] (S' := (118, [(0, .inr (.inr (some (12, 0)))), (1, .inl x1)], [.inl x1, .inr (.inr (some (12, 0)))], zfR M)) (b := true) (by decide +kernel) rfl rfl ?_
  obtain ⟨M1, hc1, h⟩ := zbv_inv h
  refine zcallV Hy.1 (as := [.inl x1]) (st := []) (m12_queueSums_met (zOK_G Hy.1) Hy.2.1 hc1) cw12_248 m12_queueSums_in m12_queueSums_se (by decide) (zhlv Hy.2.1 rfl) rfl (zroom Hy.2.2 ⟨by decide, by decide⟩) rfl (by decide +kernel) ⟨Nat.zero_le _, Nat.zero_le _⟩ ?_
  refine zblq Hy.1 Hy.2.1 [(.aload 0, 1)] (S' := (122, [(0, .inr (.inr (some (12, 0)))), (1, .inl x1)], [.inr (.inr (some (12, 0)))], zfR M1)) (b := true) (by decide +kernel) rfl rfl ?_
  obtain ⟨M2, hc2, h⟩ := zbv_inv h
  refine zcallV Hy.1 (as := []) (st := []) (m12_speak_met (zOK_G Hy.1) Hy.2.1 hc2) cw12_251 m12_speak_in m12_speak_se (by decide) (zhlv Hy.2.1 rfl) rfl (zroom Hy.2.2 ⟨by decide, by decide⟩) rfl (by decide +kernel) ⟨Nat.zero_le _, Nat.zero_le _⟩ ?_
  refine zblq Hy.1 Hy.2.1 [(.aload 0, 1)] (S' := (126, [(0, .inr (.inr (some (12, 0)))), (1, .inl x1)], [.inr (.inr (some (12, 0)))], zfR M2)) (b := true) (by decide +kernel) rfl rfl ?_
  obtain ⟨M3, hc3, h⟩ := zbv_inv h
  refine zcallV Hy.1 (as := []) (st := []) (m12_listen_met (zOK_G Hy.1) Hy.2.1 hc3) cw12_254 m12_listen_in m12_listen_se (by decide) (zhlv Hy.2.1 rfl) rfl (zroom Hy.2.2 ⟨by decide, by decide⟩) rfl (by decide +kernel) ⟨Nat.zero_le _, Nat.zero_le _⟩ ?_
  refine zblq Hy.1 Hy.2.1 [(.iconst 0, 1), (.istore 2, 1)] (S' := (131, [(0, .inr (.inr (some (12, 0)))), (1, .inl x1), (2, .inl (0 : Int32))], [], zfR M3)) (b := true) (by decide +kernel) rfl rfl ?_
  refine zGo_keep [0, 2] rfl ?_
  exact m12_goTick_131_ok Hy hE zfu (0 : Int32) M3 h
def m12_goTick_88 (k2 : Int32 → Int32 → rM → Option rM) (x1 : Int32) (x2 : Int32) (t1 : Int32) (t2 : Int32) (M : rM) : Option rM := zgd (zin t1 10 && true) (k2 x1 (x2 + (1 : Int32)) (rs M 1322 0 (nx t1) (vp_nar .boolean t2)))
theorem m12_goTick_88_ok {X : zX} {G : zG} (Hy : zHy X G q12_goTick zcR 3 74 (none)) {M' : rM} (hE : zEnd X G (none) (zfR M')) {k2 : Int32 → Int32 → rM → Option rM} (hk2 : ∀ (x1 : Int32) (x2 : Int32) (M : rM), k2 x1 x2 M = some M' → zGo (X, q12_goTick, G) 0 0 (2, [(0, .inr (.inr (some (12, 0)))), (1, .inl x1), (2, .inl x2)], [], zfR M)) (x1 : Int32) (x2 : Int32) (t1 : Int32) (t2 : Int32) (M : rM) (h : m12_goTick_88 k2 x1 x2 t1 t2 M = some M') : zGo (X, q12_goTick, G) 0 0 (88, [(0, .inr (.inr (some (12, 0)))), (1, .inl x1), (2, .inl x2)], [.inl t2, .inl t1, .inr (.inr (some (1322, 0)))], zfR M) := by
  unfold m12_goTick_88 at h
  obtain ⟨hg16, h⟩ := zgd_inv h
  refine zblq Hy.1 Hy.2.1 [(.bastore, 1), (.iinc 2 1, 3), (.ldc 2, 3)] (S' := (2, [(0, .inr (.inr (some (12, 0)))), (1, .inl x1), (2, .inl (x2 + (1 : Int32)))], [], zfR (rs M 1322 0 (nx t1) (vp_nar .boolean t2)))) (b := zin t1 10 && true) (by decide +kernel) rfl hg16 ?_
  refine zGo_keep [0, 1, 2] rfl ?_
  exact hk2 x1 (x2 + (1 : Int32)) (rs M 1322 0 (nx t1) (vp_nar .boolean t2)) h
def m12_goTick_64 (k2 : Int32 → Int32 → rM → Option rM) (x1 : Int32) (x2 : Int32) (x3 : Int32) (t1 : Int32) (t2 : Int32) (M : rM) : Option rM := zgd (zin t1 10 && (zin x2 10 && true)) ((if (rg (rs M 1323 0 (nx t1) (vp_nar .boolean t2)) 1302 0 (nx x2)) ≤ 0 then m12_goTick_88 k2 x1 x2 x2 (0 : Int32) (rs M 1323 0 (nx t1) (vp_nar .boolean t2)) else (if x3 = 0 then m12_goTick_88 k2 x1 x2 x2 (0 : Int32) (rs M 1323 0 (nx t1) (vp_nar .boolean t2)) else m12_goTick_88 k2 x1 x2 x2 (1 : Int32) (rs M 1323 0 (nx t1) (vp_nar .boolean t2)))))
theorem m12_goTick_64_ok {X : zX} {G : zG} (Hy : zHy X G q12_goTick zcR 3 74 (none)) {M' : rM} (hE : zEnd X G (none) (zfR M')) {k2 : Int32 → Int32 → rM → Option rM} (hk2 : ∀ (x1 : Int32) (x2 : Int32) (M : rM), k2 x1 x2 M = some M' → zGo (X, q12_goTick, G) 0 0 (2, [(0, .inr (.inr (some (12, 0)))), (1, .inl x1), (2, .inl x2)], [], zfR M)) (x1 : Int32) (x2 : Int32) (x3 : Int32) (t1 : Int32) (t2 : Int32) (M : rM) (h : m12_goTick_64 k2 x1 x2 x3 t1 t2 M = some M') : zGo (X, q12_goTick, G) 0 0 (64, [(0, .inr (.inr (some (12, 0)))), (1, .inl x1), (2, .inl x2), (3, .inl x3)], [.inl t2, .inl t1, .inr (.inr (some (1323, 0)))], zfR M) := by
  unfold m12_goTick_64 at h
  obtain ⟨hg15, h⟩ := zgd_inv h
  refine zblq Hy.1 Hy.2.1 [(.bastore, 1), (.aload 0, 1), (.getfield 1222, 3), (.iload 2, 1), (.aload 0, 1), (.getfield 1202, 3), (.iload 2, 1), (.iaload, 1)] (S' := (76, [(0, .inr (.inr (some (12, 0)))), (1, .inl x1), (2, .inl x2), (3, .inl x3)], [.inl (rg (rs M 1323 0 (nx t1) (vp_nar .boolean t2)) 1302 0 (nx x2)), .inl x2, .inr (.inr (some (1322, 0)))], zfR (rs M 1323 0 (nx t1) (vp_nar .boolean t2)))) (b := zin t1 10 && (zin x2 10 && true)) (by decide +kernel) rfl hg15 ?_
  refine zif_le Hy.1 (off := 11) (tgt := 87) (by decide +kernel) (by decide) (fun hb18 => ?_) (fun hb18 => ?_)
  · replace h := zite_t h hb18
    refine zblq Hy.1 Hy.2.1 [(.iconst 0, 1)] (S' := (88, [(0, .inr (.inr (some (12, 0)))), (1, .inl x1), (2, .inl x2), (3, .inl x3)], [.inl (0 : Int32), .inl x2, .inr (.inr (some (1322, 0)))], zfR (rs M 1323 0 (nx t1) (vp_nar .boolean t2)))) (b := true) (by decide +kernel) rfl rfl ?_
    refine zGo_keep [0, 1, 2] rfl ?_
    exact m12_goTick_88_ok Hy hE hk2 x1 x2 x2 (0 : Int32) (rs M 1323 0 (nx t1) (vp_nar .boolean t2)) h
  · replace h := zite_f h hb18
    refine zblq Hy.1 Hy.2.1 [(.iload 3, 1)] (S' := (80, [(0, .inr (.inr (some (12, 0)))), (1, .inl x1), (2, .inl x2), (3, .inl x3)], [.inl x3, .inl x2, .inr (.inr (some (1322, 0)))], zfR (rs M 1323 0 (nx t1) (vp_nar .boolean t2)))) (b := true) (by decide +kernel) rfl rfl ?_
    refine zif_eq Hy.1 (off := 7) (tgt := 87) (by decide +kernel) (by decide) (fun hb17 => ?_) (fun hb17 => ?_)
    · replace h := zite_t h hb17
      refine zblq Hy.1 Hy.2.1 [(.iconst 0, 1)] (S' := (88, [(0, .inr (.inr (some (12, 0)))), (1, .inl x1), (2, .inl x2), (3, .inl x3)], [.inl (0 : Int32), .inl x2, .inr (.inr (some (1322, 0)))], zfR (rs M 1323 0 (nx t1) (vp_nar .boolean t2)))) (b := true) (by decide +kernel) rfl rfl ?_
      refine zGo_keep [0, 1, 2] rfl ?_
      exact m12_goTick_88_ok Hy hE hk2 x1 x2 x2 (0 : Int32) (rs M 1323 0 (nx t1) (vp_nar .boolean t2)) h
    · replace h := zite_f h hb17
      refine zblq Hy.1 Hy.2.1 [(.iconst 1, 1), (.ldc 88, 3)] (S' := (88, [(0, .inr (.inr (some (12, 0)))), (1, .inl x1), (2, .inl x2), (3, .inl x3)], [.inl (1 : Int32), .inl x2, .inr (.inr (some (1322, 0)))], zfR (rs M 1323 0 (nx t1) (vp_nar .boolean t2)))) (b := true) (by decide +kernel) rfl rfl ?_
      refine zGo_keep [0, 1, 2] rfl ?_
      exact m12_goTick_88_ok Hy hE hk2 x1 x2 x2 (1 : Int32) (rs M 1323 0 (nx t1) (vp_nar .boolean t2)) h
def m12_goTick_45 (k2 : Int32 → Int32 → rM → Option rM) (x1 : Int32) (x2 : Int32) (x3 : Int32) (M : rM) : Option rM := zgd (zin x2 10 && true) ((if (rg M 1302 0 (nx x2)) = 0 then m12_goTick_64 k2 x1 x2 x3 x2 (1 : Int32) M else m12_goTick_64 k2 x1 x2 x3 x2 (0 : Int32) M))
theorem m12_goTick_45_ok {X : zX} {G : zG} (Hy : zHy X G q12_goTick zcR 3 74 (none)) {M' : rM} (hE : zEnd X G (none) (zfR M')) {k2 : Int32 → Int32 → rM → Option rM} (hk2 : ∀ (x1 : Int32) (x2 : Int32) (M : rM), k2 x1 x2 M = some M' → zGo (X, q12_goTick, G) 0 0 (2, [(0, .inr (.inr (some (12, 0)))), (1, .inl x1), (2, .inl x2)], [], zfR M)) (x1 : Int32) (x2 : Int32) (x3 : Int32) (M : rM) (h : m12_goTick_45 k2 x1 x2 x3 M = some M') : zGo (X, q12_goTick, G) 0 0 (45, [(0, .inr (.inr (some (12, 0)))), (1, .inl x1), (2, .inl x2), (3, .inl x3)], [], zfR M) := by
  unfold m12_goTick_45 at h
  obtain ⟨hg14, h⟩ := zgd_inv h
  refine zblq Hy.1 Hy.2.1 [(.aload 0, 1), (.getfield 1223, 3), (.iload 2, 1), (.aload 0, 1), (.getfield 1202, 3), (.iload 2, 1), (.iaload, 1)] (S' := (56, [(0, .inr (.inr (some (12, 0)))), (1, .inl x1), (2, .inl x2), (3, .inl x3)], [.inl (rg M 1302 0 (nx x2)), .inl x2, .inr (.inr (some (1323, 0)))], zfR M)) (b := zin x2 10 && true) (by decide +kernel) rfl hg14 ?_
  refine zif_ne Hy.1 (off := 7) (tgt := 63) (by decide +kernel) (by decide) (fun hb19 => ?_) (fun hb19 => ?_)
  · replace h := zite_f h hb19
    refine zblq Hy.1 Hy.2.1 [(.iconst 0, 1)] (S' := (64, [(0, .inr (.inr (some (12, 0)))), (1, .inl x1), (2, .inl x2), (3, .inl x3)], [.inl (0 : Int32), .inl x2, .inr (.inr (some (1323, 0)))], zfR M)) (b := true) (by decide +kernel) rfl rfl ?_
    refine zGo_keep [0, 1, 2, 3] rfl ?_
    exact m12_goTick_64_ok Hy hE hk2 x1 x2 x3 x2 (0 : Int32) M h
  · replace h := zite_t h hb19
    refine zblq Hy.1 Hy.2.1 [(.iconst 1, 1), (.ldc 64, 3)] (S' := (64, [(0, .inr (.inr (some (12, 0)))), (1, .inl x1), (2, .inl x2), (3, .inl x3)], [.inl (1 : Int32), .inl x2, .inr (.inr (some (1323, 0)))], zfR M)) (b := true) (by decide +kernel) rfl rfl ?_
    refine zGo_keep [0, 1, 2, 3] rfl ?_
    exact m12_goTick_64_ok Hy hE hk2 x1 x2 x3 x2 (1 : Int32) M h
def m12_goTick_41 (k2 : Int32 → Int32 → rM → Option rM) (x1 : Int32) (x2 : Int32) (x3 : Int32) (t1 : Int32) (t3 : Int32) (M : rM) : Option rM := zgd (zin t3 7 && true) (zbv (m12_spend t1 (rg M 1312 0 (nx t3)) M) (fun M21 => m12_goTick_45 k2 x1 x2 x3 M21))
theorem m12_goTick_41_ok {X : zX} {G : zG} (Hy : zHy X G q12_goTick zcR 3 74 (none)) {M' : rM} (hE : zEnd X G (none) (zfR M')) {k2 : Int32 → Int32 → rM → Option rM} (hk2 : ∀ (x1 : Int32) (x2 : Int32) (M : rM), k2 x1 x2 M = some M' → zGo (X, q12_goTick, G) 0 0 (2, [(0, .inr (.inr (some (12, 0)))), (1, .inl x1), (2, .inl x2)], [], zfR M)) (x1 : Int32) (x2 : Int32) (x3 : Int32) (t1 : Int32) (t3 : Int32) (M : rM) (h : m12_goTick_41 k2 x1 x2 x3 t1 t3 M = some M') : zGo (X, q12_goTick, G) 0 0 (41, [(0, .inr (.inr (some (12, 0)))), (1, .inl x1), (2, .inl x2), (3, .inl x3)], [.inl t3, .inr (.inr (some (1312, 0))), .inl t1, .inr (.inr (some (12, 0)))], zfR M) := by
  unfold m12_goTick_41 at h
  obtain ⟨hg20, h⟩ := zgd_inv h
  refine zblq Hy.1 Hy.2.1 [(.iaload, 1)] (S' := (42, [(0, .inr (.inr (some (12, 0)))), (1, .inl x1), (2, .inl x2), (3, .inl x3)], [.inl (rg M 1312 0 (nx t3)), .inl t1, .inr (.inr (some (12, 0)))], zfR M)) (b := zin t3 7 && true) (by decide +kernel) rfl hg20 ?_
  obtain ⟨M21, hc21, h⟩ := zbv_inv h
  refine zcallV Hy.1 (as := [.inl t1, .inl (rg M 1312 0 (nx t3))]) (st := []) (m12_spend_met (zOK_G Hy.1) Hy.2.1 hc21) cw12_225 m12_spend_in m12_spend_se (by decide) (zhlv Hy.2.1 rfl) rfl (zroom Hy.2.2 ⟨by decide, by decide⟩) rfl (by decide +kernel) ⟨Nat.zero_le _, Nat.zero_le _⟩ ?_
  refine zGo_keep [0, 1, 2, 3] rfl ?_
  exact m12_goTick_45_ok Hy hE hk2 x1 x2 x3 M21 h
def m12_goTick_2 : Nat → Int32 → Int32 → rM → Option rM
  | 0, _, _, _ => none
  | n + 1, x1, x2, M => (if (rg M 12 0 0) ≤ x2 then (if (rg M 12 0 40) ≤ 0 then m12_goTick_116 x1 M else zgd (znz (rg M 12 0 41) && true) ((if (zrem x1 (rg M 12 0 41)) = 0 then zbv (m12_beginEpoch x1 M) (fun M9 => m12_goTick_116 x1 M9) else m12_goTick_116 x1 M))) else zbd (m12_isOn x2 x1 M) (fun r12 M12 => zgd (zin x2 10 && true) ((if (rg M12 1302 0 (nx x2)) ≤ 0 then m12_goTick_45 (m12_goTick_2 n) x1 x2 r12 M12 else (if r12 = 0 then m12_goTick_41 (m12_goTick_2 n) x1 x2 r12 x2 (0 : Int32) M12 else m12_goTick_41 (m12_goTick_2 n) x1 x2 r12 x2 (1 : Int32) M12)))))
theorem m12_goTick_2_ok {X : zX} {G : zG} (Hy : zHy X G q12_goTick zcR 3 74 (none)) {M' : rM} (hE : zEnd X G (none) (zfR M')) : ∀ (n : Nat) (x1 : Int32) (x2 : Int32) (M : rM), m12_goTick_2 n x1 x2 M = some M' → zGo (X, q12_goTick, G) 0 0 (2, [(0, .inr (.inr (some (12, 0)))), (1, .inl x1), (2, .inl x2)], [], zfR M) := by
  intro n
  induction n with
  | zero => intro x1 x2 M h; cases h
  | succ n ih =>
    intro x1 x2 M h
    unfold m12_goTick_2 at h
    refine zblq Hy.1 Hy.2.1 [(.iload 2, 1), (.aload 0, 1), (.multianewarray 12 0, 3)] (S' := (7, [(0, .inr (.inr (some (12, 0)))), (1, .inl x1), (2, .inl x2)], [.inl (rg M 12 0 0), .inl x2], zfR M)) (b := true) (by decide +kernel) rfl rfl ?_
    refine zic_ge Hy.1 (off := 88) (tgt := 95) (by decide +kernel) (by decide) (fun hb24 => ?_) (fun hb24 => ?_)
    · replace h := zite_t h hb24
      refine zblq Hy.1 Hy.2.1 [(.aload 0, 1), (.multianewarray 12 40, 3)] (S' := (99, [(0, .inr (.inr (some (12, 0)))), (1, .inl x1), (2, .inl x2)], [.inl (rg M 12 0 40)], zfR M)) (b := true) (by decide +kernel) rfl rfl ?_
      refine zif_le Hy.1 (off := 17) (tgt := 116) (by decide +kernel) (by decide) (fun hb11 => ?_) (fun hb11 => ?_)
      · replace h := zite_t h hb11
        refine zGo_keep [0, 1] rfl ?_
        exact m12_goTick_116_ok Hy hE x1 M h
      · replace h := zite_f h hb11
        obtain ⟨hg8, h⟩ := zgd_inv h
        refine zblq Hy.1 Hy.2.1 [(.iload 1, 1), (.aload 0, 1), (.multianewarray 12 41, 3), (.irem, 1)] (S' := (108, [(0, .inr (.inr (some (12, 0)))), (1, .inl x1), (2, .inl x2)], [.inl (zrem x1 (rg M 12 0 41))], zfR M)) (b := znz (rg M 12 0 41) && true) (by decide +kernel) rfl hg8 ?_
        refine zif_ne Hy.1 (off := 8) (tgt := 116) (by decide +kernel) (by decide) (fun hb10 => ?_) (fun hb10 => ?_)
        · replace h := zite_f h hb10
          refine zGo_keep [0, 1] rfl ?_
          exact m12_goTick_116_ok Hy hE x1 M h
        · replace h := zite_t h hb10
          refine zblq Hy.1 Hy.2.1 [(.aload 0, 1), (.iload 1, 1)] (S' := (113, [(0, .inr (.inr (some (12, 0)))), (1, .inl x1), (2, .inl x2)], [.inl x1, .inr (.inr (some (12, 0)))], zfR M)) (b := true) (by decide +kernel) rfl rfl ?_
          obtain ⟨M9, hc9, h⟩ := zbv_inv h
          refine zcallV Hy.1 (as := [.inl x1]) (st := []) (m12_beginEpoch_met (zOK_G Hy.1) Hy.2.1 hc9) cw12_245 m12_beginEpoch_in m12_beginEpoch_se (by decide) (zhlv Hy.2.1 rfl) rfl (zroom Hy.2.2 ⟨by decide, by decide⟩) rfl (by decide +kernel) ⟨Nat.zero_le _, Nat.zero_le _⟩ ?_
          refine zGo_keep [0, 1] rfl ?_
          exact m12_goTick_116_ok Hy hE x1 M9 h
    · replace h := zite_f h hb24
      refine zblq Hy.1 Hy.2.1 [(.aload 0, 1), (.iload 2, 1), (.iload 1, 1)] (S' := (13, [(0, .inr (.inr (some (12, 0)))), (1, .inl x1), (2, .inl x2)], [.inl x1, .inl x2, .inr (.inr (some (12, 0)))], zfR M)) (b := true) (by decide +kernel) rfl rfl ?_
      obtain ⟨r12, M12, hc12, h⟩ := zbd_inv h
      refine zcallV Hy.1 (as := [.inl x2, .inl x1]) (st := []) (m12_isOn_met (zOK_G Hy.1) Hy.2.1 hc12) cw12_194 m12_isOn_in m12_isOn_se (by decide) (zhlv Hy.2.1 rfl) rfl (zroom Hy.2.2 ⟨by decide, by decide⟩) rfl (by decide +kernel) ⟨Nat.zero_le _, Nat.zero_le _⟩ ?_
      obtain ⟨hg13, h⟩ := zgd_inv h
      refine zblq Hy.1 Hy.2.1 [(.istore 3, 1), (.aload 0, 1), (.getfield 1202, 3), (.iload 2, 1), (.iaload, 1)] (S' := (23, [(0, .inr (.inr (some (12, 0)))), (1, .inl x1), (2, .inl x2), (3, .inl r12)], [.inl (rg M12 1302 0 (nx x2))], zfR M12)) (b := zin x2 10 && true) (by decide +kernel) rfl hg13 ?_
      refine zif_le Hy.1 (off := 22) (tgt := 45) (by decide +kernel) (by decide) (fun hb23 => ?_) (fun hb23 => ?_)
      · replace h := zite_t h hb23
        refine zGo_keep [0, 1, 2, 3] rfl ?_
        exact m12_goTick_45_ok Hy hE ih x1 x2 r12 M12 h
      · replace h := zite_f h hb23
        refine zblq Hy.1 Hy.2.1 [(.aload 0, 1), (.iload 2, 1), (.aload 0, 1), (.getfield 1212, 3), (.iload 3, 1)] (S' := (33, [(0, .inr (.inr (some (12, 0)))), (1, .inl x1), (2, .inl x2), (3, .inl r12)], [.inl r12, .inr (.inr (some (1312, 0))), .inl x2, .inr (.inr (some (12, 0)))], zfR M12)) (b := true) (by decide +kernel) rfl rfl ?_
        refine zif_eq Hy.1 (off := 7) (tgt := 40) (by decide +kernel) (by decide) (fun hb22 => ?_) (fun hb22 => ?_)
        · replace h := zite_t h hb22
          refine zblq Hy.1 Hy.2.1 [(.iconst 0, 1)] (S' := (41, [(0, .inr (.inr (some (12, 0)))), (1, .inl x1), (2, .inl x2), (3, .inl r12)], [.inl (0 : Int32), .inr (.inr (some (1312, 0))), .inl x2, .inr (.inr (some (12, 0)))], zfR M12)) (b := true) (by decide +kernel) rfl rfl ?_
          refine zGo_keep [0, 1, 2, 3] rfl ?_
          exact m12_goTick_41_ok Hy hE ih x1 x2 r12 x2 (0 : Int32) M12 h
        · replace h := zite_f h hb22
          refine zblq Hy.1 Hy.2.1 [(.iconst 1, 1), (.ldc 41, 3)] (S' := (41, [(0, .inr (.inr (some (12, 0)))), (1, .inl x1), (2, .inl x2), (3, .inl r12)], [.inl (1 : Int32), .inr (.inr (some (1312, 0))), .inl x2, .inr (.inr (some (12, 0)))], zfR M12)) (b := true) (by decide +kernel) rfl rfl ?_
          refine zGo_keep [0, 1, 2, 3] rfl ?_
          exact m12_goTick_41_ok Hy hE ih x1 x2 r12 x2 (1 : Int32) M12 h
def m12_goTick (x1 : Int32) (M : rM) : Option rM := m12_goTick_2 zfu x1 (0 : Int32) M
theorem m12_goTick_ok {X : zX} {G : zG} (Hy : zHy X G q12_goTick zcR 3 74 (none)) {M' : rM} (hE : zEnd X G (none) (zfR M')) (x1 : Int32) (M : rM) (h : m12_goTick x1 M = some M') : zGo (X, q12_goTick, G) 0 0 (0, [(0, .inr (.inr (some (12, 0)))), (1, .inl x1)], [], zfR M) := by
  unfold m12_goTick at h
  refine zblq Hy.1 Hy.2.1 [(.iconst 0, 1), (.istore 2, 1)] (S' := (2, [(0, .inr (.inr (some (12, 0)))), (1, .inl x1), (2, .inl (0 : Int32))], [], zfR M)) (b := true) (by decide +kernel) rfl rfl ?_
  refine zGo_keep [0, 1, 2] rfl ?_
  exact m12_goTick_2_ok Hy hE zfu x1 (0 : Int32) M h
theorem m12_goTick_met {l : Launch} {G : zG} (hG : zGok G) (hcn : zgcn G = zcR) {x1 : Int32} {M : rM} {M' : rM} (h : m12_goTick x1 M = some M') : zMet l G yX12_goTick cX12_goTick 4 (none) 3 74 [.inr (.inr (some (12, 0))), .inl x1] (zfR M) (none) (zfR M') :=
  zMet_of hG tbX12_ok rfl (by decide +kernel) (Nat.le_of_ble_eq_true rfl) (fun X _ Z hA hE => m12_goTick_ok ⟨Z, hcn, hA⟩ hE x1 M h)
abbrev q12_ticks : ByteArray × Nat × String × zT := (cX12_ticks, 3, RX12, tbX12)
def m12_ticks_27 : Nat → Int32 → Int32 → rM → Option (Int32 × rM)
  | 0, _, _, _ => none
  | n + 1, x1, x2, M => (if x1 ≤ x2 then some (rg M 12 0 13, M) else zbv (m12_goTick (rg M 12 0 13) M) (fun M2 => (m12_ticks_27 n) x1 (x2 + (1 : Int32)) (rs M2 12 0 13 ((rg M2 12 0 13) + (1 : Int32)))))
theorem m12_ticks_27_ok {X : zX} {G : zG} (Hy : zHy X G q12_ticks zcR 4 97 (some .int)) {r : Int32} {M' : rM} (hE : zEnd X G (some (.inl r)) (zfR M')) : ∀ (n : Nat) (x1 : Int32) (x2 : Int32) (M : rM), m12_ticks_27 n x1 x2 M = some (r, M') → zGo (X, q12_ticks, G) 0 0 (27, [(0, .inr (.inr (some (12, 0)))), (1, .inl x1), (2, .inl x2)], [], zfR M) := by
  intro n
  induction n with
  | zero => intro x1 x2 M h; cases h
  | succ n ih =>
    intro x1 x2 M h
    unfold m12_ticks_27 at h
    refine zblq Hy.1 Hy.2.1 [(.iload 2, 1), (.iload 1, 1)] (S' := (29, [(0, .inr (.inr (some (12, 0)))), (1, .inl x1), (2, .inl x2)], [.inl x1, .inl x2], zfR M)) (b := true) (by decide +kernel) rfl rfl ?_
    refine zic_ge Hy.1 (off := 27) (tgt := 56) (by decide +kernel) (by decide) (fun hb3 => ?_) (fun hb3 => ?_)
    · replace h := zite_t h hb3
      refine zblq Hy.1 Hy.2.1 [(.aload 0, 1), (.multianewarray 12 13, 3)] (S' := (60, [(0, .inr (.inr (some (12, 0)))), (1, .inl x1), (2, .inl x2)], [.inl (rg M 12 0 13)], zfR M)) (b := true) (by decide +kernel) rfl rfl ?_
      cases h
      exact zret_i Hy.1 Hy.2.2 hE (by decide +kernel)
    · replace h := zite_f h hb3
      refine zblq Hy.1 Hy.2.1 [(.aload 0, 1), (.aload 0, 1), (.multianewarray 12 13, 3)] (S' := (37, [(0, .inr (.inr (some (12, 0)))), (1, .inl x1), (2, .inl x2)], [.inl (rg M 12 0 13), .inr (.inr (some (12, 0)))], zfR M)) (b := true) (by decide +kernel) rfl rfl ?_
      obtain ⟨M2, hc2, h⟩ := zbv_inv h
      refine zcallV Hy.1 (as := [.inl (rg M 12 0 13)]) (st := []) (m12_goTick_met (zOK_G Hy.1) Hy.2.1 hc2) cw12_260 m12_goTick_in m12_goTick_se (by decide) (zhlv Hy.2.1 rfl) rfl (zroom Hy.2.2 ⟨by decide, by decide⟩) rfl (by decide +kernel) ⟨Nat.zero_le _, Nat.zero_le _⟩ ?_
      refine zblq Hy.1 Hy.2.1 [(.aload 0, 1), (.dup, 1), (.multianewarray 12 13, 3), (.iconst 1, 1), (.iadd, 1), (.invokeinterface 12 13, 3), (.iinc 2 1, 3), (.ldc 27, 3)] (S' := (27, [(0, .inr (.inr (some (12, 0)))), (1, .inl x1), (2, .inl (x2 + (1 : Int32)))], [], zfR (rs M2 12 0 13 ((rg M2 12 0 13) + (1 : Int32))))) (b := true) (by decide +kernel) rfl rfl ?_
      refine zGo_keep [0, 1, 2] rfl ?_
      exact ih x1 (x2 + (1 : Int32)) (rs M2 12 0 13 ((rg M2 12 0 13) + (1 : Int32))) h
def m12_ticks (x1 : Int32) (M : rM) : Option (Int32 × rM) := zbd (m12_in x1 (1 : Int32) (60 : Int32) M) (fun r1 M1 => (if r1 = 0 then some ((-3 : Int32), M1) else (if ((rg M1 12 0 13) + x1) ≤ (9000 : Int32) then m12_ticks_27 zfu x1 (0 : Int32) M1 else some ((-3 : Int32), M1))))
theorem m12_ticks_ok {X : zX} {G : zG} (Hy : zHy X G q12_ticks zcR 4 97 (some .int)) {r : Int32} {M' : rM} (hE : zEnd X G (some (.inl r)) (zfR M')) (x1 : Int32) (M : rM) (h : m12_ticks x1 M = some (r, M')) : zGo (X, q12_ticks, G) 0 0 (0, [(0, .inr (.inr (some (12, 0)))), (1, .inl x1)], [], zfR M) := by
  unfold m12_ticks at h
  refine zblq Hy.1 Hy.2.1 [(.iload 1, 1), (.iconst 1, 1), (.iconst 60, 2)] (S' := (4, [(0, .inr (.inr (some (12, 0)))), (1, .inl x1)], [.inl (60 : Int32), .inl (1 : Int32), .inl x1], zfR M)) (b := true) (by decide +kernel) rfl rfl ?_
  obtain ⟨r1, M1, hc1, h⟩ := zbd_inv h
  refine zcallS Hy.1 (as := [.inl x1, .inl (1 : Int32), .inl (60 : Int32)]) (st := []) (m12_in_met (zOK_G Hy.1) Hy.2.1 hc1) cw12_171 m12_in_in rfl (zroom Hy.2.2 ⟨by decide, by decide⟩) rfl (by decide +kernel) ⟨Nat.zero_le _, Nat.zero_le _⟩ ?_
  refine zif_eq Hy.1 (off := 15) (tgt := 22) (by decide +kernel) (by decide) (fun hb5 => ?_) (fun hb5 => ?_)
  · replace h := zite_t h hb5
    refine zblq Hy.1 Hy.2.1 [(.iconst (-3), 2)] (S' := (24, [(0, .inr (.inr (some (12, 0)))), (1, .inl x1)], [.inl (-3 : Int32)], zfR M1)) (b := true) (by decide +kernel) rfl rfl ?_
    cases h
    exact zret_i Hy.1 Hy.2.2 hE (by decide +kernel)
  · replace h := zite_f h hb5
    refine zblq Hy.1 Hy.2.1 [(.aload 0, 1), (.multianewarray 12 13, 3), (.iload 1, 1), (.iadd, 1), (.iconst 9000, 3)] (S' := (19, [(0, .inr (.inr (some (12, 0)))), (1, .inl x1)], [.inl (9000 : Int32), .inl ((rg M1 12 0 13) + x1)], zfR M1)) (b := true) (by decide +kernel) rfl rfl ?_
    refine zic_le Hy.1 (off := 6) (tgt := 25) (by decide +kernel) (by decide) (fun hb4 => ?_) (fun hb4 => ?_)
    · replace h := zite_t h hb4
      refine zblq Hy.1 Hy.2.1 [(.iconst 0, 1), (.istore 2, 1)] (S' := (27, [(0, .inr (.inr (some (12, 0)))), (1, .inl x1), (2, .inl (0 : Int32))], [], zfR M1)) (b := true) (by decide +kernel) rfl rfl ?_
      refine zGo_keep [0, 1, 2] rfl ?_
      exact m12_ticks_27_ok Hy hE zfu x1 (0 : Int32) M1 h
    · replace h := zite_f h hb4
      refine zblq Hy.1 Hy.2.1 [(.iconst (-3), 2)] (S' := (24, [(0, .inr (.inr (some (12, 0)))), (1, .inl x1)], [.inl (-3 : Int32)], zfR M1)) (b := true) (by decide +kernel) rfl rfl ?_
      cases h
      exact zret_i Hy.1 Hy.2.2 hE (by decide +kernel)
theorem m12_ticks_met {l : Launch} {G : zG} (hG : zGok G) (hcn : zgcn G = zcR) {x1 : Int32} {M : rM} {r : Int32} {M' : rM} (h : m12_ticks x1 M = some (r, M')) : zMet l G yX12_ticks cX12_ticks 3 (some .int) 4 97 [.inr (.inr (some (12, 0))), .inl x1] (zfR M) (some (.inl r)) (zfR M') :=
  zMet_of hG tbX12_ok rfl (by decide +kernel) (Nat.le_of_ble_eq_true rfl) (fun X _ Z hA hE => m12_ticks_ok ⟨Z, hcn, hA⟩ hE x1 M h)
abbrev q12_lost : ByteArray × Nat × String × zT := (cX12_lost, 2, RX12, tbX12)
def m12_lost (x1 : Int32) (M : rM) : Option (Int32 × rM) := zbd (m12_in x1 (0 : Int32) (7 : Int32) M) (fun r1 M1 => (if r1 = 0 then some ((-3 : Int32), M1) else zgd (zin x1 8 && true) (some (rg M1 1319 0 (nx x1), M1))))
theorem m12_lost_ok {X : zX} {G : zG} (Hy : zHy X G q12_lost zcR 1 22 (some .int)) {r : Int32} {M' : rM} (hE : zEnd X G (some (.inl r)) (zfR M')) (x1 : Int32) (M : rM) (h : m12_lost x1 M = some (r, M')) : zGo (X, q12_lost, G) 0 0 (0, [(0, .inr (.inr (some (12, 0)))), (1, .inl x1)], [], zfR M) := by
  unfold m12_lost at h
  refine zblq Hy.1 Hy.2.1 [(.iload 1, 1), (.iconst 0, 1), (.iconst 7, 2)] (S' := (4, [(0, .inr (.inr (some (12, 0)))), (1, .inl x1)], [.inl (7 : Int32), .inl (0 : Int32), .inl x1], zfR M)) (b := true) (by decide +kernel) rfl rfl ?_
  obtain ⟨r1, M1, hc1, h⟩ := zbd_inv h
  refine zcallS Hy.1 (as := [.inl x1, .inl (0 : Int32), .inl (7 : Int32)]) (st := []) (m12_in_met (zOK_G Hy.1) Hy.2.1 hc1) cw12_171 m12_in_in rfl (zroom Hy.2.2 ⟨by decide, by decide⟩) rfl (by decide +kernel) ⟨Nat.zero_le _, Nat.zero_le _⟩ ?_
  refine zif_eq Hy.1 (off := 12) (tgt := 19) (by decide +kernel) (by decide) (fun hb3 => ?_) (fun hb3 => ?_)
  · replace h := zite_t h hb3
    refine zblq Hy.1 Hy.2.1 [(.iconst (-3), 2)] (S' := (21, [(0, .inr (.inr (some (12, 0)))), (1, .inl x1)], [.inl (-3 : Int32)], zfR M1)) (b := true) (by decide +kernel) rfl rfl ?_
    cases h
    exact zret_i Hy.1 Hy.2.2 hE (by decide +kernel)
  · replace h := zite_f h hb3
    obtain ⟨hg2, h⟩ := zgd_inv h
    refine zblq Hy.1 Hy.2.1 [(.aload 0, 1), (.getfield 1219, 3), (.iload 1, 1), (.iaload, 1), (.ldc 21, 3)] (S' := (21, [(0, .inr (.inr (some (12, 0)))), (1, .inl x1)], [.inl (rg M1 1319 0 (nx x1))], zfR M1)) (b := zin x1 8 && true) (by decide +kernel) rfl hg2 ?_
    cases h
    exact zret_i Hy.1 Hy.2.2 hE (by decide +kernel)
theorem m12_lost_met {l : Launch} {G : zG} (hG : zGok G) (hcn : zgcn G = zcR) {x1 : Int32} {M : rM} {r : Int32} {M' : rM} (h : m12_lost x1 M = some (r, M')) : zMet l G yX12_lost cX12_lost 2 (some .int) 1 22 [.inr (.inr (some (12, 0))), .inl x1] (zfR M) (some (.inl r)) (zfR M') :=
  zMet_of hG tbX12_ok rfl (by decide +kernel) (Nat.le_of_ble_eq_true rfl) (fun X _ Z hA hE => m12_lost_ok ⟨Z, hcn, hA⟩ hE x1 M h)
abbrev q12_kept : ByteArray × Nat × String × zT := (cX12_kept, 2, RX12, tbX12)
def m12_kept (x1 : Int32) (M : rM) : Option (Int32 × rM) := (if 0 ≤ x1 then (if (rg M 12 0 20) ≤ x1 then some ((-1 : Int32), M) else zgd (zin x1 12 && true) (some (rg M 1321 0 (nx x1), M))) else some ((-3 : Int32), M))
theorem m12_kept_ok {X : zX} {G : zG} (Hy : zHy X G q12_kept zcR 0 0 (some .int)) {r : Int32} {M' : rM} (hE : zEnd X G (some (.inl r)) (zfR M')) (x1 : Int32) (M : rM) (h : m12_kept x1 M = some (r, M')) : zGo (X, q12_kept, G) 0 0 (0, [(0, .inr (.inr (some (12, 0)))), (1, .inl x1)], [], zfR M) := by
  unfold m12_kept at h
  refine zblq Hy.1 Hy.2.1 [(.iload 1, 1)] (S' := (1, [(0, .inr (.inr (some (12, 0)))), (1, .inl x1)], [.inl x1], zfR M)) (b := true) (by decide +kernel) rfl rfl ?_
  refine zif_ge Hy.1 (off := 8) (tgt := 9) (by decide +kernel) (by decide) (fun hb3 => ?_) (fun hb3 => ?_)
  · replace h := zite_t h hb3
    refine zblq Hy.1 Hy.2.1 [(.iload 1, 1), (.aload 0, 1), (.multianewarray 12 20, 3)] (S' := (14, [(0, .inr (.inr (some (12, 0)))), (1, .inl x1)], [.inl (rg M 12 0 20), .inl x1], zfR M)) (b := true) (by decide +kernel) rfl rfl ?_
    refine zic_ge Hy.1 (off := 12) (tgt := 26) (by decide +kernel) (by decide) (fun hb2 => ?_) (fun hb2 => ?_)
    · replace h := zite_t h hb2
      refine zblq Hy.1 Hy.2.1 [(.iconst (-1), 1)] (S' := (27, [(0, .inr (.inr (some (12, 0)))), (1, .inl x1)], [.inl (-1 : Int32)], zfR M)) (b := true) (by decide +kernel) rfl rfl ?_
      cases h
      exact zret_i Hy.1 Hy.2.2 hE (by decide +kernel)
    · replace h := zite_f h hb2
      obtain ⟨hg1, h⟩ := zgd_inv h
      refine zblq Hy.1 Hy.2.1 [(.aload 0, 1), (.getfield 1221, 3), (.iload 1, 1), (.iaload, 1), (.ldc 27, 3)] (S' := (27, [(0, .inr (.inr (some (12, 0)))), (1, .inl x1)], [.inl (rg M 1321 0 (nx x1))], zfR M)) (b := zin x1 12 && true) (by decide +kernel) rfl hg1 ?_
      cases h
      exact zret_i Hy.1 Hy.2.2 hE (by decide +kernel)
  · replace h := zite_f h hb3
    refine zblq Hy.1 Hy.2.1 [(.iconst (-3), 2), (.ldc 27, 3)] (S' := (27, [(0, .inr (.inr (some (12, 0)))), (1, .inl x1)], [.inl (-3 : Int32)], zfR M)) (b := true) (by decide +kernel) rfl rfl ?_
    cases h
    exact zret_i Hy.1 Hy.2.2 hE (by decide +kernel)
theorem m12_kept_met {l : Launch} {G : zG} (hG : zGok G) (hcn : zgcn G = zcR) {x1 : Int32} {M : rM} {r : Int32} {M' : rM} (h : m12_kept x1 M = some (r, M')) : zMet l G yX12_kept cX12_kept 2 (some .int) 0 0 [.inr (.inr (some (12, 0))), .inl x1] (zfR M) (some (.inl r)) (zfR M') :=
  zMet_of hG tbX12_ok rfl (by decide +kernel) (Nat.le_of_ble_eq_true rfl) (fun X _ Z hA hE => m12_kept_ok ⟨Z, hcn, hA⟩ hE x1 M h)
