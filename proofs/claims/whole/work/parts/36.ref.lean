abbrev q12_hasNextTree : ByteArray × Nat × String × zT := (cX12_hasNextTree, 3, RX12, tbX12)
def m12_hasNextTree_81 (k7 : Int32 → rM → Option (Int32 × rM)) (x1 : Int32) (M : rM) : Option (Int32 × rM) := k7 (x1 + (-1 : Int32)) M
theorem m12_hasNextTree_81_ok {X : zX} {G : zG} (Hy : zHy X G q12_hasNextTree zcR 4 87 (some .boolean)) {r : Int32} {M' : rM} (hE : zEnd X G (some (.inl r)) (zfR M')) {k7 : Int32 → rM → Option (Int32 × rM)} (hk7 : ∀ (x1 : Int32) (M : rM), k7 x1 M = some (r, M') → zGo (X, q12_hasNextTree, G) 0 0 (7, [(0, .inr (.inr (some (12, 0)))), (1, .inl x1)], [], zfR M)) (x1 : Int32) (M : rM) (h : m12_hasNextTree_81 k7 x1 M = some (r, M')) : zGo (X, q12_hasNextTree, G) 0 0 (81, [(0, .inr (.inr (some (12, 0)))), (1, .inl x1)], [], zfR M) := by
  unfold m12_hasNextTree_81 at h
  refine zblq Hy.1 Hy.2.1 [(.iinc 1 (-1), 3), (.ldc 7, 3)] (S' := (7, [(0, .inr (.inr (some (12, 0)))), (1, .inl (x1 + (-1 : Int32)))], [], zfR M)) (b := true) (by decide +kernel) rfl rfl ?_
  refine zGo_keep [0, 1] rfl ?_
  exact hk7 (x1 + (-1 : Int32)) M h
def m12_hasNextTree_53 (k7 : Int32 → rM → Option (Int32 × rM)) (x1 : Int32) (x2 : Int32) (M : rM) : Option (Int32 × rM) := (if (rg M 12 0 0) ≤ x2 then zbd (m12_firstFor x1 M) (fun r3 M3 => zgd (zin x1 10 && true) (m12_hasNextTree_81 k7 x1 (rs M3 1347 0 (nx x1) r3))) else zgd (zin x1 10 && true) (some ((1 : Int32), rs M 1347 0 (nx x1) x2)))
theorem m12_hasNextTree_53_ok {X : zX} {G : zG} (Hy : zHy X G q12_hasNextTree zcR 4 87 (some .boolean)) {r : Int32} {M' : rM} (hE : zEnd X G (some (.inl r)) (zfR M')) {k7 : Int32 → rM → Option (Int32 × rM)} (hk7 : ∀ (x1 : Int32) (M : rM), k7 x1 M = some (r, M') → zGo (X, q12_hasNextTree, G) 0 0 (7, [(0, .inr (.inr (some (12, 0)))), (1, .inl x1)], [], zfR M)) (x1 : Int32) (x2 : Int32) (M : rM) (h : m12_hasNextTree_53 k7 x1 x2 M = some (r, M')) : zGo (X, q12_hasNextTree, G) 0 0 (53, [(0, .inr (.inr (some (12, 0)))), (1, .inl x1), (2, .inl x2)], [], zfR M) := by
  unfold m12_hasNextTree_53 at h
  refine zblq Hy.1 Hy.2.1 [(.iload 2, 1), (.aload 0, 1), (.multianewarray 12 0, 3)] (S' := (58, [(0, .inr (.inr (some (12, 0)))), (1, .inl x1), (2, .inl x2)], [.inl (rg M 12 0 0), .inl x2], zfR M)) (b := true) (by decide +kernel) rfl rfl ?_
  refine zic_ge Hy.1 (off := 12) (tgt := 70) (by decide +kernel) (by decide) (fun hb6 => ?_) (fun hb6 => ?_)
  · replace h := zite_t h hb6
    refine zblq Hy.1 Hy.2.1 [(.aload 0, 1), (.getfield 1247, 3), (.iload 1, 1), (.aload 0, 1), (.iload 1, 1)] (S' := (77, [(0, .inr (.inr (some (12, 0)))), (1, .inl x1), (2, .inl x2)], [.inl x1, .inr (.inr (some (12, 0))), .inl x1, .inr (.inr (some (1347, 0)))], zfR M)) (b := true) (by decide +kernel) rfl rfl ?_
    obtain ⟨r3, M3, hc3, h⟩ := zbd_inv h
    refine zcallV Hy.1 (as := [.inl x1]) (st := [.inl x1, .inr (.inr (some (1347, 0)))]) (m12_firstFor_met (zOK_G Hy.1) Hy.2.1 hc3) cw12_362 m12_firstFor_in m12_firstFor_se (by decide) (zhlv Hy.2.1 rfl) rfl (zroom Hy.2.2 ⟨by decide, by decide⟩) rfl (by decide +kernel) ⟨Nat.zero_le _, Nat.zero_le _⟩ ?_
    obtain ⟨hg4, h⟩ := zgd_inv h
    refine zblq Hy.1 Hy.2.1 [(.iastore, 1)] (S' := (81, [(0, .inr (.inr (some (12, 0)))), (1, .inl x1), (2, .inl x2)], [], zfR (rs M3 1347 0 (nx x1) r3))) (b := zin x1 10 && true) (by decide +kernel) rfl hg4 ?_
    refine zGo_keep [0, 1] rfl ?_
    exact m12_hasNextTree_81_ok Hy hE hk7 x1 (rs M3 1347 0 (nx x1) r3) h
  · replace h := zite_f h hb6
    obtain ⟨hg5, h⟩ := zgd_inv h
    refine zblq Hy.1 Hy.2.1 [(.aload 0, 1), (.getfield 1247, 3), (.iload 1, 1), (.iload 2, 1), (.iastore, 1), (.iconst 1, 1)] (S' := (69, [(0, .inr (.inr (some (12, 0)))), (1, .inl x1), (2, .inl x2)], [.inl (1 : Int32)], zfR (rs M 1347 0 (nx x1) x2))) (b := zin x1 10 && true) (by decide +kernel) rfl hg5 ?_
    cases h
    exact zret_z Hy.1 Hy.2.2 (by decide) hE (by decide +kernel)
def m12_hasNextTree_30 (k7 : Int32 → rM → Option (Int32 × rM)) : Nat → Int32 → Int32 → rM → Option (Int32 × rM)
  | 0, _, _, _ => none
  | n + 1, x1, x2, M => (if (rg M 12 0 0) ≤ x2 then m12_hasNextTree_53 k7 x1 x2 M else zbd (m12_mayLead x1 x2 M) (fun r7 M7 => (if r7 = 0 then (m12_hasNextTree_30 k7 n) x1 (x2 + (1 : Int32)) M7 else m12_hasNextTree_53 k7 x1 x2 M7)))
theorem m12_hasNextTree_30_ok {X : zX} {G : zG} (Hy : zHy X G q12_hasNextTree zcR 4 87 (some .boolean)) {r : Int32} {M' : rM} (hE : zEnd X G (some (.inl r)) (zfR M')) {k7 : Int32 → rM → Option (Int32 × rM)} (hk7 : ∀ (x1 : Int32) (M : rM), k7 x1 M = some (r, M') → zGo (X, q12_hasNextTree, G) 0 0 (7, [(0, .inr (.inr (some (12, 0)))), (1, .inl x1)], [], zfR M)) : ∀ (n : Nat) (x1 : Int32) (x2 : Int32) (M : rM), m12_hasNextTree_30 k7 n x1 x2 M = some (r, M') → zGo (X, q12_hasNextTree, G) 0 0 (30, [(0, .inr (.inr (some (12, 0)))), (1, .inl x1), (2, .inl x2)], [], zfR M) := by
  intro n
  induction n with
  | zero => intro x1 x2 M h; cases h
  | succ n ih =>
    intro x1 x2 M h
    unfold m12_hasNextTree_30 at h
    refine zblq Hy.1 Hy.2.1 [(.iload 2, 1), (.aload 0, 1), (.multianewarray 12 0, 3)] (S' := (35, [(0, .inr (.inr (some (12, 0)))), (1, .inl x1), (2, .inl x2)], [.inl (rg M 12 0 0), .inl x2], zfR M)) (b := true) (by decide +kernel) rfl rfl ?_
    refine zic_ge Hy.1 (off := 18) (tgt := 53) (by decide +kernel) (by decide) (fun hb9 => ?_) (fun hb9 => ?_)
    · replace h := zite_t h hb9
      refine zGo_keep [0, 1, 2] rfl ?_
      exact m12_hasNextTree_53_ok Hy hE hk7 x1 x2 M h
    · replace h := zite_f h hb9
      refine zblq Hy.1 Hy.2.1 [(.aload 0, 1), (.iload 1, 1), (.iload 2, 1)] (S' := (41, [(0, .inr (.inr (some (12, 0)))), (1, .inl x1), (2, .inl x2)], [.inl x2, .inl x1, .inr (.inr (some (12, 0)))], zfR M)) (b := true) (by decide +kernel) rfl rfl ?_
      obtain ⟨r7, M7, hc7, h⟩ := zbd_inv h
      refine zcallV Hy.1 (as := [.inl x1, .inl x2]) (st := []) (m12_mayLead_met (zOK_G Hy.1) Hy.2.1 hc7) cw12_359 m12_mayLead_in m12_mayLead_se (by decide) (zhlv Hy.2.1 rfl) rfl (zroom Hy.2.2 ⟨by decide, by decide⟩) rfl (by decide +kernel) ⟨Nat.zero_le _, Nat.zero_le _⟩ ?_
      refine zif_ne Hy.1 (off := 9) (tgt := 53) (by decide +kernel) (by decide) (fun hb8 => ?_) (fun hb8 => ?_)
      · replace h := zite_f h hb8
        refine zGo_keep [0, 1, 2] rfl ?_
        exact m12_hasNextTree_53_ok Hy hE hk7 x1 x2 M7 h
      · replace h := zite_t h hb8
        refine zblq Hy.1 Hy.2.1 [(.iinc 2 1, 3), (.ldc 30, 3)] (S' := (30, [(0, .inr (.inr (some (12, 0)))), (1, .inl x1), (2, .inl (x2 + (1 : Int32)))], [], zfR M7)) (b := true) (by decide +kernel) rfl rfl ?_
        refine zGo_keep [0, 1, 2] rfl ?_
        exact ih x1 (x2 + (1 : Int32)) M7 h
def m12_hasNextTree_7 : Nat → Int32 → rM → Option (Int32 × rM)
  | 0, _, _ => none
  | n + 1, x1, M => (if x1 ≤ 0 then some ((0 : Int32), M) else zgd (zin x1 10 && true) ((if (rg M 1347 0 (nx x1)) = (-1 : Int32) then m12_hasNextTree_81 (m12_hasNextTree_7 n) x1 M else zgd (zin x1 10 && true) (m12_hasNextTree_30 (m12_hasNextTree_7 n) zfu x1 ((rg M 1347 0 (nx x1)) + (1 : Int32)) M))))
theorem m12_hasNextTree_7_ok {X : zX} {G : zG} (Hy : zHy X G q12_hasNextTree zcR 4 87 (some .boolean)) {r : Int32} {M' : rM} (hE : zEnd X G (some (.inl r)) (zfR M')) : ∀ (n : Nat) (x1 : Int32) (M : rM), m12_hasNextTree_7 n x1 M = some (r, M') → zGo (X, q12_hasNextTree, G) 0 0 (7, [(0, .inr (.inr (some (12, 0)))), (1, .inl x1)], [], zfR M) := by
  intro n
  induction n with
  | zero => intro x1 M h; cases h
  | succ n ih =>
    intro x1 M h
    unfold m12_hasNextTree_7 at h
    refine zblq Hy.1 Hy.2.1 [(.iload 1, 1)] (S' := (8, [(0, .inr (.inr (some (12, 0)))), (1, .inl x1)], [.inl x1], zfR M)) (b := true) (by decide +kernel) rfl rfl ?_
    refine zif_le Hy.1 (off := 79) (tgt := 87) (by decide +kernel) (by decide) (fun hb11 => ?_) (fun hb11 => ?_)
    · replace h := zite_t h hb11
      refine zblq Hy.1 Hy.2.1 [(.iconst 0, 1)] (S' := (88, [(0, .inr (.inr (some (12, 0)))), (1, .inl x1)], [.inl (0 : Int32)], zfR M)) (b := true) (by decide +kernel) rfl rfl ?_
      cases h
      exact zret_z Hy.1 Hy.2.2 (by decide) hE (by decide +kernel)
    · replace h := zite_f h hb11
      obtain ⟨hg1, h⟩ := zgd_inv h
      refine zblq Hy.1 Hy.2.1 [(.aload 0, 1), (.getfield 1247, 3), (.iload 1, 1), (.iaload, 1), (.iconst (-1), 1)] (S' := (18, [(0, .inr (.inr (some (12, 0)))), (1, .inl x1)], [.inl (-1 : Int32), .inl (rg M 1347 0 (nx x1))], zfR M)) (b := zin x1 10 && true) (by decide +kernel) rfl hg1 ?_
      refine zic_eq Hy.1 (off := 63) (tgt := 81) (by decide +kernel) (by decide) (fun hb10 => ?_) (fun hb10 => ?_)
      · replace h := zite_t h hb10
        refine zGo_keep [0, 1] rfl ?_
        exact m12_hasNextTree_81_ok Hy hE ih x1 M h
      · replace h := zite_f h hb10
        obtain ⟨hg2, h⟩ := zgd_inv h
        refine zblq Hy.1 Hy.2.1 [(.aload 0, 1), (.getfield 1247, 3), (.iload 1, 1), (.iaload, 1), (.iconst 1, 1), (.iadd, 1), (.istore 2, 1)] (S' := (30, [(0, .inr (.inr (some (12, 0)))), (1, .inl x1), (2, .inl ((rg M 1347 0 (nx x1)) + (1 : Int32)))], [], zfR M)) (b := zin x1 10 && true) (by decide +kernel) rfl hg2 ?_
        refine zGo_keep [0, 1, 2] rfl ?_
        exact m12_hasNextTree_30_ok Hy hE ih zfu x1 ((rg M 1347 0 (nx x1)) + (1 : Int32)) M h
def m12_hasNextTree  (M : rM) : Option (Int32 × rM) := m12_hasNextTree_7 zfu ((rg M 12 0 0) - (1 : Int32)) M
theorem m12_hasNextTree_ok {X : zX} {G : zG} (Hy : zHy X G q12_hasNextTree zcR 4 87 (some .boolean)) {r : Int32} {M' : rM} (hE : zEnd X G (some (.inl r)) (zfR M'))  (M : rM) (h : m12_hasNextTree M = some (r, M')) : zGo (X, q12_hasNextTree, G) 0 0 (0, [(0, .inr (.inr (some (12, 0))))], [], zfR M) := by
  unfold m12_hasNextTree at h
  refine zblq Hy.1 Hy.2.1 [(.aload 0, 1), (.multianewarray 12 0, 3), (.iconst 1, 1), (.isub, 1), (.istore 1, 1)] (S' := (7, [(0, .inr (.inr (some (12, 0)))), (1, .inl ((rg M 12 0 0) - (1 : Int32)))], [], zfR M)) (b := true) (by decide +kernel) rfl rfl ?_
  refine zGo_keep [0, 1] rfl ?_
  exact m12_hasNextTree_7_ok Hy hE zfu ((rg M 12 0 0) - (1 : Int32)) M h
theorem m12_hasNextTree_met {l : Launch} {G : zG} (hG : zGok G) (hcn : zgcn G = zcR)  {M : rM} {r : Int32} {M' : rM} (h : m12_hasNextTree M = some (r, M')) : zMet l G yX12_hasNextTree cX12_hasNextTree 3 (some .boolean) 4 87 [.inr (.inr (some (12, 0)))] (zfR M) (some (.inl r)) (zfR M') :=
  zMet_of hG tbX12_ok rfl (by decide +kernel) (Nat.le_of_ble_eq_true rfl) (fun X _ Z hA hE => m12_hasNextTree_ok ⟨Z, hcn, hA⟩ hE M h)
abbrev q12_findLongest : ByteArray × Nat × String × zT := (cX12_findLongest, 6, RX12, tbX12)
def m12_findLongest_266 (k196 : Int32 → rM → Option (Int32 × rM)) (t1 : Int32) (M : rM) : Option (Int32 × rM) := zbd (m12_hasNextTree (rs M 12 0 49 t1)) (fun r3 M3 => k196 r3 M3)
theorem m12_findLongest_266_ok {X : zX} {G : zG} (Hy : zHy X G q12_findLongest zcR 5 109 (some .boolean)) {r : Int32} {M' : rM} (hE : zEnd X G (some (.inl r)) (zfR M')) {k196 : Int32 → rM → Option (Int32 × rM)} (hk196 : ∀ (x3 : Int32) (M : rM), k196 x3 M = some (r, M') → zGo (X, q12_findLongest, G) 0 0 (196, [(0, .inr (.inr (some (12, 0)))), (3, .inl x3)], [], zfR M)) (t1 : Int32) (M : rM) (h : m12_findLongest_266 k196 t1 M = some (r, M')) : zGo (X, q12_findLongest, G) 0 0 (266, [(0, .inr (.inr (some (12, 0))))], [.inl t1, .inr (.inr (some (12, 0)))], zfR M) := by
  unfold m12_findLongest_266 at h
  refine zblq Hy.1 Hy.2.1 [(.invokeinterface 12 49, 3), (.aload 0, 1)] (S' := (270, [(0, .inr (.inr (some (12, 0))))], [.inr (.inr (some (12, 0)))], zfR (rs M 12 0 49 t1))) (b := true) (by decide +kernel) rfl rfl ?_
  obtain ⟨r3, M3, hc3, h⟩ := zbd_inv h
  refine zcallV Hy.1 (as := []) (st := []) (m12_hasNextTree_met (zOK_G Hy.1) Hy.2.1 hc3) cw12_376 m12_hasNextTree_in m12_hasNextTree_se (by decide) (zhlv Hy.2.1 rfl) rfl (zroom Hy.2.2 ⟨by decide, by decide⟩) rfl (by decide +kernel) ⟨Nat.zero_le _, Nat.zero_le _⟩ ?_
  refine zblq Hy.1 Hy.2.1 [(.istore 3, 1), (.ldc 196, 3)] (S' := (196, [(0, .inr (.inr (some (12, 0)))), (3, .inl r3)], [], zfR M3)) (b := true) (by decide +kernel) rfl rfl ?_
  refine zGo_keep [0, 3] rfl ?_
  exact hk196 r3 M3 h
def m12_findLongest_247 (k196 : Int32 → rM → Option (Int32 × rM)) (x4 : Int32) (M : rM) : Option (Int32 × rM) := (if x4 ≤ (rg M 12 0 49) then m12_findLongest_266 k196 (rg M 12 0 49) M else m12_findLongest_266 k196 x4 M)
theorem m12_findLongest_247_ok {X : zX} {G : zG} (Hy : zHy X G q12_findLongest zcR 5 109 (some .boolean)) {r : Int32} {M' : rM} (hE : zEnd X G (some (.inl r)) (zfR M')) {k196 : Int32 → rM → Option (Int32 × rM)} (hk196 : ∀ (x3 : Int32) (M : rM), k196 x3 M = some (r, M') → zGo (X, q12_findLongest, G) 0 0 (196, [(0, .inr (.inr (some (12, 0)))), (3, .inl x3)], [], zfR M)) (x4 : Int32) (M : rM) (h : m12_findLongest_247 k196 x4 M = some (r, M')) : zGo (X, q12_findLongest, G) 0 0 (247, [(0, .inr (.inr (some (12, 0)))), (4, .inl x4)], [], zfR M) := by
  unfold m12_findLongest_247 at h
  refine zblq Hy.1 Hy.2.1 [(.aload 0, 1), (.iload 4, 2), (.aload 0, 1), (.multianewarray 12 49, 3)] (S' := (254, [(0, .inr (.inr (some (12, 0)))), (4, .inl x4)], [.inl (rg M 12 0 49), .inl x4, .inr (.inr (some (12, 0)))], zfR M)) (b := true) (by decide +kernel) rfl rfl ?_
  refine zic_le Hy.1 (off := 8) (tgt := 262) (by decide +kernel) (by decide) (fun hb4 => ?_) (fun hb4 => ?_)
  · replace h := zite_t h hb4
    refine zblq Hy.1 Hy.2.1 [(.aload 0, 1), (.multianewarray 12 49, 3)] (S' := (266, [(0, .inr (.inr (some (12, 0)))), (4, .inl x4)], [.inl (rg M 12 0 49), .inr (.inr (some (12, 0)))], zfR M)) (b := true) (by decide +kernel) rfl rfl ?_
    refine zGo_keep [0] rfl ?_
    exact m12_findLongest_266_ok Hy hE hk196 (rg M 12 0 49) M h
  · replace h := zite_f h hb4
    refine zblq Hy.1 Hy.2.1 [(.iload 4, 2), (.ldc 266, 3)] (S' := (266, [(0, .inr (.inr (some (12, 0)))), (4, .inl x4)], [.inl x4, .inr (.inr (some (12, 0)))], zfR M)) (b := true) (by decide +kernel) rfl rfl ?_
    refine zGo_keep [0] rfl ?_
    exact m12_findLongest_266_ok Hy hE hk196 x4 M h
def m12_findLongest_209 (k196 : Int32 → rM → Option (Int32 × rM)) : Nat → Int32 → Int32 → rM → Option (Int32 × rM)
  | 0, _, _, _ => none
  | n + 1, x4, x5, M => (if (rg M 12 0 0) ≤ x5 then m12_findLongest_247 k196 x4 M else (if x4 ≤ (rg M 12 0 49) then m12_findLongest_247 k196 x4 M else zgd (zin x5 10 && (zin x5 10 && true)) ((m12_findLongest_209 k196 n) x4 (x5 + (1 : Int32)) (rs M 1348 0 (nx x5) (rg M 1347 0 (nx x5))))))
theorem m12_findLongest_209_ok {X : zX} {G : zG} (Hy : zHy X G q12_findLongest zcR 5 109 (some .boolean)) {r : Int32} {M' : rM} (hE : zEnd X G (some (.inl r)) (zfR M')) {k196 : Int32 → rM → Option (Int32 × rM)} (hk196 : ∀ (x3 : Int32) (M : rM), k196 x3 M = some (r, M') → zGo (X, q12_findLongest, G) 0 0 (196, [(0, .inr (.inr (some (12, 0)))), (3, .inl x3)], [], zfR M)) : ∀ (n : Nat) (x4 : Int32) (x5 : Int32) (M : rM), m12_findLongest_209 k196 n x4 x5 M = some (r, M') → zGo (X, q12_findLongest, G) 0 0 (209, [(0, .inr (.inr (some (12, 0)))), (4, .inl x4), (5, .inl x5)], [], zfR M) := by
  intro n
  induction n with
  | zero => intro x4 x5 M h; cases h
  | succ n ih =>
    intro x4 x5 M h
    unfold m12_findLongest_209 at h
    refine zblq Hy.1 Hy.2.1 [(.iload 5, 2), (.aload 0, 1), (.multianewarray 12 0, 3)] (S' := (215, [(0, .inr (.inr (some (12, 0)))), (4, .inl x4), (5, .inl x5)], [.inl (rg M 12 0 0), .inl x5], zfR M)) (b := true) (by decide +kernel) rfl rfl ?_
    refine zic_ge Hy.1 (off := 32) (tgt := 247) (by decide +kernel) (by decide) (fun hb7 => ?_) (fun hb7 => ?_)
    · replace h := zite_t h hb7
      refine zGo_keep [0, 4] rfl ?_
      exact m12_findLongest_247_ok Hy hE hk196 x4 M h
    · replace h := zite_f h hb7
      refine zblq Hy.1 Hy.2.1 [(.iload 4, 2), (.aload 0, 1), (.multianewarray 12 49, 3)] (S' := (224, [(0, .inr (.inr (some (12, 0)))), (4, .inl x4), (5, .inl x5)], [.inl (rg M 12 0 49), .inl x4], zfR M)) (b := true) (by decide +kernel) rfl rfl ?_
      refine zic_le Hy.1 (off := 23) (tgt := 247) (by decide +kernel) (by decide) (fun hb6 => ?_) (fun hb6 => ?_)
      · replace h := zite_t h hb6
        refine zGo_keep [0, 4] rfl ?_
        exact m12_findLongest_247_ok Hy hE hk196 x4 M h
      · replace h := zite_f h hb6
        obtain ⟨hg5, h⟩ := zgd_inv h
        refine zblq Hy.1 Hy.2.1 [(.aload 0, 1), (.getfield 1248, 3), (.iload 5, 2), (.aload 0, 1), (.getfield 1247, 3), (.iload 5, 2), (.iaload, 1), (.iastore, 1), (.iinc 5 1, 3), (.ldc 209, 3)] (S' := (209, [(0, .inr (.inr (some (12, 0)))), (4, .inl x4), (5, .inl (x5 + (1 : Int32)))], [], zfR (rs M 1348 0 (nx x5) (rg M 1347 0 (nx x5))))) (b := zin x5 10 && (zin x5 10 && true)) (by decide +kernel) rfl hg5 ?_
        refine zGo_keep [0, 4, 5] rfl ?_
        exact ih x4 (x5 + (1 : Int32)) (rs M 1348 0 (nx x5) (rg M 1347 0 (nx x5))) h
def m12_findLongest_196 : Nat → Int32 → rM → Option (Int32 × rM)
  | 0, _, _ => none
  | n + 1, x3, M => (if x3 = 0 then some ((1 : Int32), M) else zbd (m12_leastLife M) (fun r2 M2 => m12_findLongest_209 (m12_findLongest_196 n) zfu r2 (0 : Int32) M2))
theorem m12_findLongest_196_ok {X : zX} {G : zG} (Hy : zHy X G q12_findLongest zcR 5 109 (some .boolean)) {r : Int32} {M' : rM} (hE : zEnd X G (some (.inl r)) (zfR M')) : ∀ (n : Nat) (x3 : Int32) (M : rM), m12_findLongest_196 n x3 M = some (r, M') → zGo (X, q12_findLongest, G) 0 0 (196, [(0, .inr (.inr (some (12, 0)))), (3, .inl x3)], [], zfR M) := by
  intro n
  induction n with
  | zero => intro x3 M h; cases h
  | succ n ih =>
    intro x3 M h
    unfold m12_findLongest_196 at h
    refine zblq Hy.1 Hy.2.1 [(.iload 3, 1)] (S' := (197, [(0, .inr (.inr (some (12, 0)))), (3, .inl x3)], [.inl x3], zfR M)) (b := true) (by decide +kernel) rfl rfl ?_
    refine zif_eq Hy.1 (off := 80) (tgt := 277) (by decide +kernel) (by decide) (fun hb8 => ?_) (fun hb8 => ?_)
    · replace h := zite_t h hb8
      refine zblq Hy.1 Hy.2.1 [(.iconst 1, 1)] (S' := (278, [(0, .inr (.inr (some (12, 0)))), (3, .inl x3)], [.inl (1 : Int32)], zfR M)) (b := true) (by decide +kernel) rfl rfl ?_
      cases h
      exact zret_z Hy.1 Hy.2.2 (by decide) hE (by decide +kernel)
    · replace h := zite_f h hb8
      refine zblq Hy.1 Hy.2.1 [(.aload 0, 1)] (S' := (201, [(0, .inr (.inr (some (12, 0)))), (3, .inl x3)], [.inr (.inr (some (12, 0)))], zfR M)) (b := true) (by decide +kernel) rfl rfl ?_
      obtain ⟨r2, M2, hc2, h⟩ := zbd_inv h
      refine zcallV Hy.1 (as := []) (st := []) (m12_leastLife_met (zOK_G Hy.1) Hy.2.1 hc2) cw12_373 m12_leastLife_in m12_leastLife_se (by decide) (zhlv Hy.2.1 rfl) rfl (zroom Hy.2.2 ⟨by decide, by decide⟩) rfl (by decide +kernel) ⟨Nat.zero_le _, Nat.zero_le _⟩ ?_
      refine zblq Hy.1 Hy.2.1 [(.istore 4, 2), (.iconst 0, 1), (.istore 5, 2)] (S' := (209, [(0, .inr (.inr (some (12, 0)))), (3, .inl x3), (4, .inl r2), (5, .inl (0 : Int32))], [], zfR M2)) (b := true) (by decide +kernel) rfl rfl ?_
      refine zGo_keep [0, 4, 5] rfl ?_
      exact m12_findLongest_209_ok Hy hE ih zfu r2 (0 : Int32) M2 h
def m12_findLongest_168 : Nat → Int32 → rM → Option (Int32 × rM)
  | 0, _, _ => none
  | n + 1, x3, M => (if (rg M 12 0 0) ≤ x3 then m12_findLongest_196 zfu (1 : Int32) M else zgd (zin x3 10 && (zin x3 10 && true)) ((m12_findLongest_168 n) (x3 + (1 : Int32)) (rs M 1348 0 (nx x3) (rg M 1347 0 (nx x3)))))
theorem m12_findLongest_168_ok {X : zX} {G : zG} (Hy : zHy X G q12_findLongest zcR 5 109 (some .boolean)) {r : Int32} {M' : rM} (hE : zEnd X G (some (.inl r)) (zfR M')) : ∀ (n : Nat) (x3 : Int32) (M : rM), m12_findLongest_168 n x3 M = some (r, M') → zGo (X, q12_findLongest, G) 0 0 (168, [(0, .inr (.inr (some (12, 0)))), (3, .inl x3)], [], zfR M) := by
  intro n
  induction n with
  | zero => intro x3 M h; cases h
  | succ n ih =>
    intro x3 M h
    unfold m12_findLongest_168 at h
    refine zblq Hy.1 Hy.2.1 [(.iload 3, 1), (.aload 0, 1), (.multianewarray 12 0, 3)] (S' := (173, [(0, .inr (.inr (some (12, 0)))), (3, .inl x3)], [.inl (rg M 12 0 0), .inl x3], zfR M)) (b := true) (by decide +kernel) rfl rfl ?_
    refine zic_ge Hy.1 (off := 21) (tgt := 194) (by decide +kernel) (by decide) (fun hb10 => ?_) (fun hb10 => ?_)
    · replace h := zite_t h hb10
      refine zblq Hy.1 Hy.2.1 [(.iconst 1, 1), (.istore 3, 1)] (S' := (196, [(0, .inr (.inr (some (12, 0)))), (3, .inl (1 : Int32))], [], zfR M)) (b := true) (by decide +kernel) rfl rfl ?_
      refine zGo_keep [0, 3] rfl ?_
      exact m12_findLongest_196_ok Hy hE zfu (1 : Int32) M h
    · replace h := zite_f h hb10
      obtain ⟨hg9, h⟩ := zgd_inv h
      refine zblq Hy.1 Hy.2.1 [(.aload 0, 1), (.getfield 1248, 3), (.iload 3, 1), (.aload 0, 1), (.getfield 1247, 3), (.iload 3, 1), (.iaload, 1), (.iastore, 1), (.iinc 3 1, 3), (.ldc 168, 3)] (S' := (168, [(0, .inr (.inr (some (12, 0)))), (3, .inl (x3 + (1 : Int32)))], [], zfR (rs M 1348 0 (nx x3) (rg M 1347 0 (nx x3))))) (b := zin x3 10 && (zin x3 10 && true)) (by decide +kernel) rfl hg9 ?_
      refine zGo_keep [0, 3] rfl ?_
      exact ih (x3 + (1 : Int32)) (rs M 1348 0 (nx x3) (rg M 1347 0 (nx x3))) h
def m12_findLongest_86 (k8 : Int64 → Int32 → rM → Option (Int32 × rM)) : Nat → Int64 → Int32 → Int32 → rM → Option (Int32 × rM)
  | 0, _, _, _, _ => none
  | n + 1, x1, x3, x5, M => (if (10 : Int32) ≤ x5 then k8 x1 (x3 + (1 : Int32)) M else zbd (m12_lifeFor x3 (0 : Int32) x5 M) (fun r14 M14 => zgd (zin (((20 : Int32) * x3) + ((2 : Int32) * x5)) 200 && true) (zbd (m12_lifeFor x3 (1 : Int32) x5 (rs M14 1350 0 (nx (((20 : Int32) * x3) + ((2 : Int32) * x5))) r14)) (fun r16 M16 => zgd (zin ((((20 : Int32) * x3) + ((2 : Int32) * x5)) + (1 : Int32)) 200 && true) ((m12_findLongest_86 k8 n) x1 x3 (x5 + (1 : Int32)) (rs M16 1350 0 (nx ((((20 : Int32) * x3) + ((2 : Int32) * x5)) + (1 : Int32))) r16))))))
theorem m12_findLongest_86_ok {X : zX} {G : zG} (Hy : zHy X G q12_findLongest zcR 5 109 (some .boolean)) {r : Int32} {M' : rM} (hE : zEnd X G (some (.inl r)) (zfR M')) {k8 : Int64 → Int32 → rM → Option (Int32 × rM)} (hk8 : ∀ (x1 : Int64) (x3 : Int32) (M : rM), k8 x1 x3 M = some (r, M') → zGo (X, q12_findLongest, G) 0 0 (8, [(0, .inr (.inr (some (12, 0)))), (1, .inr (.inl x1)), (3, .inl x3)], [], zfR M)) : ∀ (n : Nat) (x1 : Int64) (x3 : Int32) (x5 : Int32) (M : rM), m12_findLongest_86 k8 n x1 x3 x5 M = some (r, M') → zGo (X, q12_findLongest, G) 0 0 (86, [(0, .inr (.inr (some (12, 0)))), (1, .inr (.inl x1)), (3, .inl x3), (5, .inl x5)], [], zfR M) := by
  intro n
  induction n with
  | zero => intro x1 x3 x5 M h; cases h
  | succ n ih =>
    intro x1 x3 x5 M h
    unfold m12_findLongest_86 at h
    refine zblq Hy.1 Hy.2.1 [(.iload 5, 2), (.iconst 10, 2)] (S' := (90, [(0, .inr (.inr (some (12, 0)))), (1, .inr (.inl x1)), (3, .inl x3), (5, .inl x5)], [.inl (10 : Int32), .inl x5], zfR M)) (b := true) (by decide +kernel) rfl rfl ?_
    refine zic_ge Hy.1 (off := 55) (tgt := 145) (by decide +kernel) (by decide) (fun hb18 => ?_) (fun hb18 => ?_)
    · replace h := zite_t h hb18
      refine zblq Hy.1 Hy.2.1 [(.iinc 3 1, 3), (.ldc 8, 3)] (S' := (8, [(0, .inr (.inr (some (12, 0)))), (1, .inr (.inl x1)), (3, .inl (x3 + (1 : Int32))), (5, .inl x5)], [], zfR M)) (b := true) (by decide +kernel) rfl rfl ?_
      refine zGo_keep [0, 1, 3] rfl ?_
      exact hk8 x1 (x3 + (1 : Int32)) M h
    · replace h := zite_f h hb18
      refine zblq Hy.1 Hy.2.1 [(.aload 0, 1), (.getfield 1250, 3), (.iconst 20, 2), (.iload 3, 1), (.imul, 1), (.iconst 2, 1), (.iload 5, 2), (.imul, 1), (.iadd, 1), (.aload 0, 1), (.iload 3, 1), (.iconst 0, 1), (.iload 5, 2)] (S' := (111, [(0, .inr (.inr (some (12, 0)))), (1, .inr (.inl x1)), (3, .inl x3), (5, .inl x5)], [.inl x5, .inl (0 : Int32), .inl x3, .inr (.inr (some (12, 0))), .inl (((20 : Int32) * x3) + ((2 : Int32) * x5)), .inr (.inr (some (1350, 0)))], zfR M)) (b := true) (by decide +kernel) rfl rfl ?_
      obtain ⟨r14, M14, hc14, h⟩ := zbd_inv h
      refine zcallV Hy.1 (as := [.inl x3, .inl (0 : Int32), .inl x5]) (st := [.inl (((20 : Int32) * x3) + ((2 : Int32) * x5)), .inr (.inr (some (1350, 0)))]) (m12_lifeFor_met (zOK_G Hy.1) Hy.2.1 hc14) cw12_355 m12_lifeFor_in m12_lifeFor_se (by decide) (zhlv Hy.2.1 rfl) rfl (zroom Hy.2.2 ⟨by decide, by decide⟩) rfl (by decide +kernel) ⟨Nat.zero_le _, Nat.zero_le _⟩ ?_
      obtain ⟨hg15, h⟩ := zgd_inv h
      refine zblq Hy.1 Hy.2.1 [(.iastore, 1), (.aload 0, 1), (.getfield 1250, 3), (.iconst 20, 2), (.iload 3, 1), (.imul, 1), (.iconst 2, 1), (.iload 5, 2), (.imul, 1), (.iadd, 1), (.iconst 1, 1), (.iadd, 1), (.aload 0, 1), (.iload 3, 1), (.iconst 1, 1), (.iload 5, 2)] (S' := (135, [(0, .inr (.inr (some (12, 0)))), (1, .inr (.inl x1)), (3, .inl x3), (5, .inl x5)], [.inl x5, .inl (1 : Int32), .inl x3, .inr (.inr (some (12, 0))), .inl ((((20 : Int32) * x3) + ((2 : Int32) * x5)) + (1 : Int32)), .inr (.inr (some (1350, 0)))], zfR (rs M14 1350 0 (nx (((20 : Int32) * x3) + ((2 : Int32) * x5))) r14))) (b := zin (((20 : Int32) * x3) + ((2 : Int32) * x5)) 200 && true) (by decide +kernel) rfl hg15 ?_
      obtain ⟨r16, M16, hc16, h⟩ := zbd_inv h
      refine zcallV Hy.1 (as := [.inl x3, .inl (1 : Int32), .inl x5]) (st := [.inl ((((20 : Int32) * x3) + ((2 : Int32) * x5)) + (1 : Int32)), .inr (.inr (some (1350, 0)))]) (m12_lifeFor_met (zOK_G Hy.1) Hy.2.1 hc16) cw12_355 m12_lifeFor_in m12_lifeFor_se (by decide) (zhlv Hy.2.1 rfl) rfl (zroom Hy.2.2 ⟨by decide, by decide⟩) rfl (by decide +kernel) ⟨Nat.zero_le _, Nat.zero_le _⟩ ?_
      obtain ⟨hg17, h⟩ := zgd_inv h
      refine zblq Hy.1 Hy.2.1 [(.iastore, 1), (.iinc 5 1, 3), (.ldc 86, 3)] (S' := (86, [(0, .inr (.inr (some (12, 0)))), (1, .inr (.inl x1)), (3, .inl x3), (5, .inl (x5 + (1 : Int32)))], [], zfR (rs M16 1350 0 (nx ((((20 : Int32) * x3) + ((2 : Int32) * x5)) + (1 : Int32))) r16))) (b := zin ((((20 : Int32) * x3) + ((2 : Int32) * x5)) + (1 : Int32)) 200 && true) (by decide +kernel) rfl hg17 ?_
      refine zGo_keep [0, 1, 3, 5] rfl ?_
      exact ih x1 x3 (x5 + (1 : Int32)) (rs M16 1350 0 (nx ((((20 : Int32) * x3) + ((2 : Int32) * x5)) + (1 : Int32))) r16) h
def m12_findLongest_69 (k8 : Int64 → Int32 → rM → Option (Int32 × rM)) (x3 : Int32) (t0 : Int64) (t1 : Int32) (M : rM) : Option (Int32 × rM) := zbd (m12_firstFor x3 M) (fun r12 M12 => zgd (zin x3 10 && true) (m12_findLongest_86 k8 zfu (t0 * (Int32.toInt64 t1)) x3 (0 : Int32) (rs M12 1347 0 (nx x3) r12)))
theorem m12_findLongest_69_ok {X : zX} {G : zG} (Hy : zHy X G q12_findLongest zcR 5 109 (some .boolean)) {r : Int32} {M' : rM} (hE : zEnd X G (some (.inl r)) (zfR M')) {k8 : Int64 → Int32 → rM → Option (Int32 × rM)} (hk8 : ∀ (x1 : Int64) (x3 : Int32) (M : rM), k8 x1 x3 M = some (r, M') → zGo (X, q12_findLongest, G) 0 0 (8, [(0, .inr (.inr (some (12, 0)))), (1, .inr (.inl x1)), (3, .inl x3)], [], zfR M)) (x3 : Int32) (t0 : Int64) (t1 : Int32) (M : rM) (h : m12_findLongest_69 k8 x3 t0 t1 M = some (r, M')) : zGo (X, q12_findLongest, G) 0 0 (69, [(0, .inr (.inr (some (12, 0)))), (3, .inl x3)], [.inl t1, .inr (.inl t0)], zfR M) := by
  unfold m12_findLongest_69 at h
  refine zblq Hy.1 Hy.2.1 [(.i2l, 1), (.lmul, 1), (.lstore 1, 1), (.aload 0, 1), (.getfield 1247, 3), (.iload 3, 1), (.aload 0, 1), (.iload 3, 1)] (S' := (79, [(0, .inr (.inr (some (12, 0)))), (1, .inr (.inl (t0 * (Int32.toInt64 t1)))), (3, .inl x3)], [.inl x3, .inr (.inr (some (12, 0))), .inl x3, .inr (.inr (some (1347, 0)))], zfR M)) (b := true) (by decide +kernel) rfl rfl ?_
  obtain ⟨r12, M12, hc12, h⟩ := zbd_inv h
  refine zcallV Hy.1 (as := [.inl x3]) (st := [.inl x3, .inr (.inr (some (1347, 0)))]) (m12_firstFor_met (zOK_G Hy.1) Hy.2.1 hc12) cw12_362 m12_firstFor_in m12_firstFor_se (by decide) (zhlv Hy.2.1 rfl) rfl (zroom Hy.2.2 ⟨by decide, by decide⟩) rfl (by decide +kernel) ⟨Nat.zero_le _, Nat.zero_le _⟩ ?_
  obtain ⟨hg13, h⟩ := zgd_inv h
  refine zblq Hy.1 Hy.2.1 [(.iastore, 1), (.iconst 0, 1), (.istore 5, 2)] (S' := (86, [(0, .inr (.inr (some (12, 0)))), (1, .inr (.inl (t0 * (Int32.toInt64 t1)))), (3, .inl x3), (5, .inl (0 : Int32))], [], zfR (rs M12 1347 0 (nx x3) r12))) (b := zin x3 10 && true) (by decide +kernel) rfl hg13 ?_
  refine zGo_keep [0, 1, 3, 5] rfl ?_
  exact m12_findLongest_86_ok Hy hE hk8 zfu (t0 * (Int32.toInt64 t1)) x3 (0 : Int32) (rs M12 1347 0 (nx x3) r12) h
def m12_findLongest_48 (k8 : Int64 → Int32 → rM → Option (Int32 × rM)) (k22 : Int64 → Int32 → Int32 → Int32 → rM → Option (Int32 × rM)) (x1 : Int64) (x3 : Int32) (x5 : Int32) (t0 : Int32) (t1 : Int32) (M : rM) : Option (Int32 × rM) := k22 x1 x3 (t0 + t1) (x5 + (1 : Int32)) M
theorem m12_findLongest_48_ok {X : zX} {G : zG} (Hy : zHy X G q12_findLongest zcR 5 109 (some .boolean)) {r : Int32} {M' : rM} (hE : zEnd X G (some (.inl r)) (zfR M')) {k8 : Int64 → Int32 → rM → Option (Int32 × rM)} (hk8 : ∀ (x1 : Int64) (x3 : Int32) (M : rM), k8 x1 x3 M = some (r, M') → zGo (X, q12_findLongest, G) 0 0 (8, [(0, .inr (.inr (some (12, 0)))), (1, .inr (.inl x1)), (3, .inl x3)], [], zfR M)) {k22 : Int64 → Int32 → Int32 → Int32 → rM → Option (Int32 × rM)} (hk22 : ∀ (x1 : Int64) (x3 : Int32) (x4 : Int32) (x5 : Int32) (M : rM), k22 x1 x3 x4 x5 M = some (r, M') → zGo (X, q12_findLongest, G) 0 0 (22, [(0, .inr (.inr (some (12, 0)))), (1, .inr (.inl x1)), (3, .inl x3), (4, .inl x4), (5, .inl x5)], [], zfR M)) (x1 : Int64) (x3 : Int32) (x5 : Int32) (t0 : Int32) (t1 : Int32) (M : rM) (h : m12_findLongest_48 k8 k22 x1 x3 x5 t0 t1 M = some (r, M')) : zGo (X, q12_findLongest, G) 0 0 (48, [(0, .inr (.inr (some (12, 0)))), (1, .inr (.inl x1)), (3, .inl x3), (5, .inl x5)], [.inl t1, .inl t0], zfR M) := by
  unfold m12_findLongest_48 at h
  refine zblq Hy.1 Hy.2.1 [(.iadd, 1), (.istore 4, 2), (.iinc 5 1, 3), (.ldc 22, 3)] (S' := (22, [(0, .inr (.inr (some (12, 0)))), (1, .inr (.inl x1)), (3, .inl x3), (4, .inl (t0 + t1)), (5, .inl (x5 + (1 : Int32)))], [], zfR M)) (b := true) (by decide +kernel) rfl rfl ?_
  refine zGo_keep [0, 1, 3, 4, 5] rfl ?_
  exact hk22 x1 x3 (t0 + t1) (x5 + (1 : Int32)) M h
def m12_findLongest_22 (k8 : Int64 → Int32 → rM → Option (Int32 × rM)) : Nat → Int64 → Int32 → Int32 → Int32 → rM → Option (Int32 × rM)
  | 0, _, _, _, _, _ => none
  | n + 1, x1, x3, x4, x5, M => (if (rg M 12 0 0) ≤ x5 then (if x4 = 0 then m12_findLongest_69 k8 x3 x1 (1 : Int32) M else m12_findLongest_69 k8 x3 x1 x4 M) else zbd (m12_mayLead x3 x5 M) (fun r20 M20 => (if r20 = 0 then m12_findLongest_48 k8 (m12_findLongest_22 k8 n) x1 x3 x5 x4 (0 : Int32) M20 else m12_findLongest_48 k8 (m12_findLongest_22 k8 n) x1 x3 x5 x4 (1 : Int32) M20)))
theorem m12_findLongest_22_ok {X : zX} {G : zG} (Hy : zHy X G q12_findLongest zcR 5 109 (some .boolean)) {r : Int32} {M' : rM} (hE : zEnd X G (some (.inl r)) (zfR M')) {k8 : Int64 → Int32 → rM → Option (Int32 × rM)} (hk8 : ∀ (x1 : Int64) (x3 : Int32) (M : rM), k8 x1 x3 M = some (r, M') → zGo (X, q12_findLongest, G) 0 0 (8, [(0, .inr (.inr (some (12, 0)))), (1, .inr (.inl x1)), (3, .inl x3)], [], zfR M)) : ∀ (n : Nat) (x1 : Int64) (x3 : Int32) (x4 : Int32) (x5 : Int32) (M : rM), m12_findLongest_22 k8 n x1 x3 x4 x5 M = some (r, M') → zGo (X, q12_findLongest, G) 0 0 (22, [(0, .inr (.inr (some (12, 0)))), (1, .inr (.inl x1)), (3, .inl x3), (4, .inl x4), (5, .inl x5)], [], zfR M) := by
  intro n
  induction n with
  | zero => intro x1 x3 x4 x5 M h; cases h
  | succ n ih =>
    intro x1 x3 x4 x5 M h
    unfold m12_findLongest_22 at h
    refine zblq Hy.1 Hy.2.1 [(.iload 5, 2), (.aload 0, 1), (.multianewarray 12 0, 3)] (S' := (28, [(0, .inr (.inr (some (12, 0)))), (1, .inr (.inl x1)), (3, .inl x3), (4, .inl x4), (5, .inl x5)], [.inl (rg M 12 0 0), .inl x5], zfR M)) (b := true) (by decide +kernel) rfl rfl ?_
    refine zic_ge Hy.1 (off := 29) (tgt := 57) (by decide +kernel) (by decide) (fun hb22 => ?_) (fun hb22 => ?_)
    · replace h := zite_t h hb22
      refine zblq Hy.1 Hy.2.1 [(.lload 1, 1), (.iload 4, 2)] (S' := (60, [(0, .inr (.inr (some (12, 0)))), (1, .inr (.inl x1)), (3, .inl x3), (4, .inl x4), (5, .inl x5)], [.inl x4, .inr (.inl x1)], zfR M)) (b := true) (by decide +kernel) rfl rfl ?_
      refine zif_ne Hy.1 (off := 7) (tgt := 67) (by decide +kernel) (by decide) (fun hb19 => ?_) (fun hb19 => ?_)
      · replace h := zite_f h hb19
        refine zblq Hy.1 Hy.2.1 [(.iload 4, 2)] (S' := (69, [(0, .inr (.inr (some (12, 0)))), (1, .inr (.inl x1)), (3, .inl x3), (4, .inl x4), (5, .inl x5)], [.inl x4, .inr (.inl x1)], zfR M)) (b := true) (by decide +kernel) rfl rfl ?_
        refine zGo_keep [0, 3] rfl ?_
        exact m12_findLongest_69_ok Hy hE hk8 x3 x1 x4 M h
      · replace h := zite_t h hb19
        refine zblq Hy.1 Hy.2.1 [(.iconst 1, 1), (.ldc 69, 3)] (S' := (69, [(0, .inr (.inr (some (12, 0)))), (1, .inr (.inl x1)), (3, .inl x3), (4, .inl x4), (5, .inl x5)], [.inl (1 : Int32), .inr (.inl x1)], zfR M)) (b := true) (by decide +kernel) rfl rfl ?_
        refine zGo_keep [0, 3] rfl ?_
        exact m12_findLongest_69_ok Hy hE hk8 x3 x1 (1 : Int32) M h
    · replace h := zite_f h hb22
      refine zblq Hy.1 Hy.2.1 [(.iload 4, 2), (.aload 0, 1), (.iload 3, 1), (.iload 5, 2)] (S' := (37, [(0, .inr (.inr (some (12, 0)))), (1, .inr (.inl x1)), (3, .inl x3), (4, .inl x4), (5, .inl x5)], [.inl x5, .inl x3, .inr (.inr (some (12, 0))), .inl x4], zfR M)) (b := true) (by decide +kernel) rfl rfl ?_
      obtain ⟨r20, M20, hc20, h⟩ := zbd_inv h
      refine zcallV Hy.1 (as := [.inl x3, .inl x5]) (st := [.inl x4]) (m12_mayLead_met (zOK_G Hy.1) Hy.2.1 hc20) cw12_359 m12_mayLead_in m12_mayLead_se (by decide) (zhlv Hy.2.1 rfl) rfl (zroom Hy.2.2 ⟨by decide, by decide⟩) rfl (by decide +kernel) ⟨Nat.zero_le _, Nat.zero_le _⟩ ?_
      refine zif_eq Hy.1 (off := 7) (tgt := 47) (by decide +kernel) (by decide) (fun hb21 => ?_) (fun hb21 => ?_)
      · replace h := zite_t h hb21
        refine zblq Hy.1 Hy.2.1 [(.iconst 0, 1)] (S' := (48, [(0, .inr (.inr (some (12, 0)))), (1, .inr (.inl x1)), (3, .inl x3), (4, .inl x4), (5, .inl x5)], [.inl (0 : Int32), .inl x4], zfR M20)) (b := true) (by decide +kernel) rfl rfl ?_
        refine zGo_keep [0, 1, 3, 5] rfl ?_
        exact m12_findLongest_48_ok Hy hE hk8 ih x1 x3 x5 x4 (0 : Int32) M20 h
      · replace h := zite_f h hb21
        refine zblq Hy.1 Hy.2.1 [(.iconst 1, 1), (.ldc 48, 3)] (S' := (48, [(0, .inr (.inr (some (12, 0)))), (1, .inr (.inl x1)), (3, .inl x3), (4, .inl x4), (5, .inl x5)], [.inl (1 : Int32), .inl x4], zfR M20)) (b := true) (by decide +kernel) rfl rfl ?_
        refine zGo_keep [0, 1, 3, 5] rfl ?_
        exact m12_findLongest_48_ok Hy hE hk8 ih x1 x3 x5 x4 (1 : Int32) M20 h
def m12_findLongest_8 : Nat → Int64 → Int32 → rM → Option (Int32 × rM)
  | 0, _, _, _ => none
  | n + 1, x1, x3, M => (if (rg M 12 0 0) ≤ x3 then (if (lg_cmp x1 (20000 : Int64)) ≤ 0 then m12_findLongest_168 zfu (0 : Int32) (rs M 12 0 49 (-1 : Int32)) else some ((0 : Int32), M)) else m12_findLongest_22 (m12_findLongest_8 n) zfu x1 x3 (0 : Int32) (0 : Int32) M)
theorem m12_findLongest_8_ok {X : zX} {G : zG} (Hy : zHy X G q12_findLongest zcR 5 109 (some .boolean)) {r : Int32} {M' : rM} (hE : zEnd X G (some (.inl r)) (zfR M')) : ∀ (n : Nat) (x1 : Int64) (x3 : Int32) (M : rM), m12_findLongest_8 n x1 x3 M = some (r, M') → zGo (X, q12_findLongest, G) 0 0 (8, [(0, .inr (.inr (some (12, 0)))), (1, .inr (.inl x1)), (3, .inl x3)], [], zfR M) := by
  intro n
  induction n with
  | zero => intro x1 x3 M h; cases h
  | succ n ih =>
    intro x1 x3 M h
    unfold m12_findLongest_8 at h
    refine zblq Hy.1 Hy.2.1 [(.iload 3, 1), (.aload 0, 1), (.multianewarray 12 0, 3)] (S' := (13, [(0, .inr (.inr (some (12, 0)))), (1, .inr (.inl x1)), (3, .inl x3)], [.inl (rg M 12 0 0), .inl x3], zfR M)) (b := true) (by decide +kernel) rfl rfl ?_
    refine zic_ge Hy.1 (off := 138) (tgt := 151) (by decide +kernel) (by decide) (fun hb23 => ?_) (fun hb23 => ?_)
    · replace h := zite_t h hb23
      refine zblq Hy.1 Hy.2.1 [(.lload 1, 1), (.goto_w 20000, 3), (.lcmp, 1)] (S' := (156, [(0, .inr (.inr (some (12, 0)))), (1, .inr (.inl x1)), (3, .inl x3)], [.inl (lg_cmp x1 (20000 : Int64))], zfR M)) (b := true) (by decide +kernel) rfl rfl ?_
      refine zif_le Hy.1 (off := 5) (tgt := 161) (by decide +kernel) (by decide) (fun hb11 => ?_) (fun hb11 => ?_)
      · replace h := zite_t h hb11
        refine zblq Hy.1 Hy.2.1 [(.aload 0, 1), (.iconst (-1), 1), (.invokeinterface 12 49, 3), (.iconst 0, 1), (.istore 3, 1)] (S' := (168, [(0, .inr (.inr (some (12, 0)))), (1, .inr (.inl x1)), (3, .inl (0 : Int32))], [], zfR (rs M 12 0 49 (-1 : Int32)))) (b := true) (by decide +kernel) rfl rfl ?_
        refine zGo_keep [0, 3] rfl ?_
        exact m12_findLongest_168_ok Hy hE zfu (0 : Int32) (rs M 12 0 49 (-1 : Int32)) h
      · replace h := zite_f h hb11
        refine zblq Hy.1 Hy.2.1 [(.iconst 0, 1)] (S' := (160, [(0, .inr (.inr (some (12, 0)))), (1, .inr (.inl x1)), (3, .inl x3)], [.inl (0 : Int32)], zfR M)) (b := true) (by decide +kernel) rfl rfl ?_
        cases h
        exact zret_z Hy.1 Hy.2.2 (by decide) hE (by decide +kernel)
    · replace h := zite_f h hb23
      refine zblq Hy.1 Hy.2.1 [(.iconst 0, 1), (.istore 4, 2), (.iconst 0, 1), (.istore 5, 2)] (S' := (22, [(0, .inr (.inr (some (12, 0)))), (1, .inr (.inl x1)), (3, .inl x3), (4, .inl (0 : Int32)), (5, .inl (0 : Int32))], [], zfR M)) (b := true) (by decide +kernel) rfl rfl ?_
      refine zGo_keep [0, 1, 3, 4, 5] rfl ?_
      exact m12_findLongest_22_ok Hy hE ih zfu x1 x3 (0 : Int32) (0 : Int32) M h
def m12_findLongest  (M : rM) : Option (Int32 × rM) := zbv (m12_findHome M) (fun M1 => m12_findLongest_8 zfu (1 : Int64) (0 : Int32) M1)
theorem m12_findLongest_ok {X : zX} {G : zG} (Hy : zHy X G q12_findLongest zcR 5 109 (some .boolean)) {r : Int32} {M' : rM} (hE : zEnd X G (some (.inl r)) (zfR M'))  (M : rM) (h : m12_findLongest M = some (r, M')) : zGo (X, q12_findLongest, G) 0 0 (0, [(0, .inr (.inr (some (12, 0))))], [], zfR M) := by
  unfold m12_findLongest at h
  refine zblq Hy.1 Hy.2.1 [(.aload 0, 1)] (S' := (1, [(0, .inr (.inr (some (12, 0))))], [.inr (.inr (some (12, 0)))], zfR M)) (b := true) (by decide +kernel) rfl rfl ?_
  obtain ⟨M1, hc1, h⟩ := zbv_inv h
  refine zcallV Hy.1 (as := []) (st := []) (m12_findHome_met (zOK_G Hy.1) Hy.2.1 hc1) cw12_365 m12_findHome_in m12_findHome_se (by decide) (zhlv Hy.2.1 rfl) rfl (zroom Hy.2.2 ⟨by decide, by decide⟩) rfl (by decide +kernel) ⟨Nat.zero_le _, Nat.zero_le _⟩ ?_
  refine zblq Hy.1 Hy.2.1 [(.goto_w 1, 1), (.lstore 1, 1), (.iconst 0, 1), (.istore 3, 1)] (S' := (8, [(0, .inr (.inr (some (12, 0)))), (1, .inr (.inl (1 : Int64))), (3, .inl (0 : Int32))], [], zfR M1)) (b := true) (by decide +kernel) rfl rfl ?_
  refine zGo_keep [0, 1, 3] rfl ?_
  exact m12_findLongest_8_ok Hy hE zfu (1 : Int64) (0 : Int32) M1 h
theorem m12_findLongest_met {l : Launch} {G : zG} (hG : zGok G) (hcn : zgcn G = zcR)  {M : rM} {r : Int32} {M' : rM} (h : m12_findLongest M = some (r, M')) : zMet l G yX12_findLongest cX12_findLongest 6 (some .boolean) 5 109 [.inr (.inr (some (12, 0)))] (zfR M) (some (.inl r)) (zfR M') :=
  zMet_of hG tbX12_ok rfl (by decide +kernel) (Nat.le_of_ble_eq_true rfl) (fun X _ Z hA hE => m12_findLongest_ok ⟨Z, hcn, hA⟩ hE M h)
abbrev q12_longest : ByteArray × Nat × String × zT := (cX12_longest, 1, RX12, tbX12)
def m12_longest  (M : rM) : Option (Int32 × rM) := zbd (m12_findLongest M) (fun r1 M1 => (if r1 = 0 then some ((-4 : Int32), M1) else some (rg M1 12 0 49, M1)))
theorem m12_longest_ok {X : zX} {G : zG} (Hy : zHy X G q12_longest zcR 6 134 (some .int)) {r : Int32} {M' : rM} (hE : zEnd X G (some (.inl r)) (zfR M'))  (M : rM) (h : m12_longest M = some (r, M')) : zGo (X, q12_longest, G) 0 0 (0, [(0, .inr (.inr (some (12, 0))))], [], zfR M) := by
  unfold m12_longest at h
  refine zblq Hy.1 Hy.2.1 [(.aload 0, 1)] (S' := (1, [(0, .inr (.inr (some (12, 0))))], [.inr (.inr (some (12, 0)))], zfR M)) (b := true) (by decide +kernel) rfl rfl ?_
  obtain ⟨r1, M1, hc1, h⟩ := zbd_inv h
  refine zcallV Hy.1 (as := []) (st := []) (m12_findLongest_met (zOK_G Hy.1) Hy.2.1 hc1) cw12_379 m12_findLongest_in m12_findLongest_se (by decide) (zhlv Hy.2.1 rfl) rfl (zroom Hy.2.2 ⟨by decide, by decide⟩) rfl (by decide +kernel) ⟨Nat.zero_le _, Nat.zero_le _⟩ ?_
  refine zif_eq Hy.1 (off := 10) (tgt := 14) (by decide +kernel) (by decide) (fun hb2 => ?_) (fun hb2 => ?_)
  · replace h := zite_t h hb2
    refine zblq Hy.1 Hy.2.1 [(.iconst (-4), 2)] (S' := (16, [(0, .inr (.inr (some (12, 0))))], [.inl (-4 : Int32)], zfR M1)) (b := true) (by decide +kernel) rfl rfl ?_
    cases h
    exact zret_i Hy.1 Hy.2.2 hE (by decide +kernel)
  · replace h := zite_f h hb2
    refine zblq Hy.1 Hy.2.1 [(.aload 0, 1), (.multianewarray 12 49, 3), (.ldc 16, 3)] (S' := (16, [(0, .inr (.inr (some (12, 0))))], [.inl (rg M1 12 0 49)], zfR M1)) (b := true) (by decide +kernel) rfl rfl ?_
    cases h
    exact zret_i Hy.1 Hy.2.2 hE (by decide +kernel)
theorem m12_longest_met {l : Launch} {G : zG} (hG : zGok G) (hcn : zgcn G = zcR)  {M : rM} {r : Int32} {M' : rM} (h : m12_longest M = some (r, M')) : zMet l G yX12_longest cX12_longest 1 (some .int) 6 134 [.inr (.inr (some (12, 0)))] (zfR M) (some (.inl r)) (zfR M') :=
  zMet_of hG tbX12_ok rfl (by decide +kernel) (Nat.le_of_ble_eq_true rfl) (fun X _ Z hA hE => m12_longest_ok ⟨Z, hcn, hA⟩ hE M h)
abbrev q12_best : ByteArray × Nat × String × zT := (cX12_best, 2, RX12, tbX12)
def m12_best (x1 : Int32) (M : rM) : Option (Int32 × rM) := zbd (m12_isBox x1 M) (fun r1 M1 => (if r1 = 0 then some ((-2 : Int32), M1) else zbd (m12_findLongest M1) (fun r2 M2 => (if r2 = 0 then some ((-4 : Int32), M2) else zgd (zin x1 10 && true) (some (rg M2 1348 0 (nx x1), M2))))))
theorem m12_best_ok {X : zX} {G : zG} (Hy : zHy X G q12_best zcR 6 134 (some .int)) {r : Int32} {M' : rM} (hE : zEnd X G (some (.inl r)) (zfR M')) (x1 : Int32) (M : rM) (h : m12_best x1 M = some (r, M')) : zGo (X, q12_best, G) 0 0 (0, [(0, .inr (.inr (some (12, 0)))), (1, .inl x1)], [], zfR M) := by
  unfold m12_best at h
  refine zblq Hy.1 Hy.2.1 [(.aload 0, 1), (.iload 1, 1)] (S' := (2, [(0, .inr (.inr (some (12, 0)))), (1, .inl x1)], [.inl x1, .inr (.inr (some (12, 0)))], zfR M)) (b := true) (by decide +kernel) rfl rfl ?_
  obtain ⟨r1, M1, hc1, h⟩ := zbd_inv h
  refine zcallV Hy.1 (as := [.inl x1]) (st := []) (m12_isBox_met (zOK_G Hy.1) Hy.2.1 hc1) cw12_175 m12_isBox_in m12_isBox_se (by decide) (zhlv Hy.2.1 rfl) rfl (zroom Hy.2.2 ⟨by decide, by decide⟩) rfl (by decide +kernel) ⟨Nat.zero_le _, Nat.zero_le _⟩ ?_
  refine zif_ne Hy.1 (off := 6) (tgt := 11) (by decide +kernel) (by decide) (fun hb5 => ?_) (fun hb5 => ?_)
  · replace h := zite_f h hb5
    refine zblq Hy.1 Hy.2.1 [(.aload 0, 1)] (S' := (12, [(0, .inr (.inr (some (12, 0)))), (1, .inl x1)], [.inr (.inr (some (12, 0)))], zfR M1)) (b := true) (by decide +kernel) rfl rfl ?_
    obtain ⟨r2, M2, hc2, h⟩ := zbd_inv h
    refine zcallV Hy.1 (as := []) (st := []) (m12_findLongest_met (zOK_G Hy.1) Hy.2.1 hc2) cw12_379 m12_findLongest_in m12_findLongest_se (by decide) (zhlv Hy.2.1 rfl) rfl (zroom Hy.2.2 ⟨by decide, by decide⟩) rfl (by decide +kernel) ⟨Nat.zero_le _, Nat.zero_le _⟩ ?_
    refine zif_eq Hy.1 (off := 12) (tgt := 27) (by decide +kernel) (by decide) (fun hb4 => ?_) (fun hb4 => ?_)
    · replace h := zite_t h hb4
      refine zblq Hy.1 Hy.2.1 [(.iconst (-4), 2)] (S' := (29, [(0, .inr (.inr (some (12, 0)))), (1, .inl x1)], [.inl (-4 : Int32)], zfR M2)) (b := true) (by decide +kernel) rfl rfl ?_
      cases h
      exact zret_i Hy.1 Hy.2.2 hE (by decide +kernel)
    · replace h := zite_f h hb4
      obtain ⟨hg3, h⟩ := zgd_inv h
      refine zblq Hy.1 Hy.2.1 [(.aload 0, 1), (.getfield 1248, 3), (.iload 1, 1), (.iaload, 1), (.ldc 29, 3)] (S' := (29, [(0, .inr (.inr (some (12, 0)))), (1, .inl x1)], [.inl (rg M2 1348 0 (nx x1))], zfR M2)) (b := zin x1 10 && true) (by decide +kernel) rfl hg3 ?_
      cases h
      exact zret_i Hy.1 Hy.2.2 hE (by decide +kernel)
  · replace h := zite_t h hb5
    refine zblq Hy.1 Hy.2.1 [(.iconst (-2), 2)] (S' := (10, [(0, .inr (.inr (some (12, 0)))), (1, .inl x1)], [.inl (-2 : Int32)], zfR M1)) (b := true) (by decide +kernel) rfl rfl ?_
    cases h
    exact zret_i Hy.1 Hy.2.2 hE (by decide +kernel)
theorem m12_best_met {l : Launch} {G : zG} (hG : zGok G) (hcn : zgcn G = zcR) {x1 : Int32} {M : rM} {r : Int32} {M' : rM} (h : m12_best x1 M = some (r, M')) : zMet l G yX12_best cX12_best 2 (some .int) 6 134 [.inr (.inr (some (12, 0))), .inl x1] (zfR M) (some (.inl r)) (zfR M') :=
  zMet_of hG tbX12_ok rfl (by decide +kernel) (Nat.le_of_ble_eq_true rfl) (fun X _ Z hA hE => m12_best_ok ⟨Z, hcn, hA⟩ hE x1 M h)
abbrev q12_fact : ByteArray × Nat × String × zT := (cX12_fact, 6, RX12, tbX12)
def m12_fact_115 (x5 : Int32) (M : rM) : Option (Int32 × rM) := zgd (zin (rg M 12 0 51) 20 && true) (some (rg (rs (rs M 1356 0 (nx (rg M 12 0 51)) x5) 12 0 51 ((rg (rs M 1356 0 (nx (rg M 12 0 51)) x5) 12 0 51) + (1 : Int32))) 12 0 51, rs (rs M 1356 0 (nx (rg M 12 0 51)) x5) 12 0 51 ((rg (rs M 1356 0 (nx (rg M 12 0 51)) x5) 12 0 51) + (1 : Int32))))
theorem m12_fact_115_ok {X : zX} {G : zG} (Hy : zHy X G q12_fact zcR 2 43 (some .int)) {r : Int32} {M' : rM} (hE : zEnd X G (some (.inl r)) (zfR M')) (x5 : Int32) (M : rM) (h : m12_fact_115 x5 M = some (r, M')) : zGo (X, q12_fact, G) 0 0 (115, [(0, .inr (.inr (some (12, 0)))), (5, .inl x5)], [], zfR M) := by
  unfold m12_fact_115 at h
  obtain ⟨hg7, h⟩ := zgd_inv h
  refine zblq Hy.1 Hy.2.1 [(.aload 0, 1), (.getfield 1256, 3), (.aload 0, 1), (.multianewarray 12 51, 3), (.iload 5, 2), (.iastore, 1), (.aload 0, 1), (.dup, 1), (.multianewarray 12 51, 3), (.iconst 1, 1), (.iadd, 1), (.invokeinterface 12 51, 3), (.aload 0, 1), (.multianewarray 12 51, 3)] (S' := (140, [(0, .inr (.inr (some (12, 0)))), (5, .inl x5)], [.inl (rg (rs (rs M 1356 0 (nx (rg M 12 0 51)) x5) 12 0 51 ((rg (rs M 1356 0 (nx (rg M 12 0 51)) x5) 12 0 51) + (1 : Int32))) 12 0 51)], zfR (rs (rs M 1356 0 (nx (rg M 12 0 51)) x5) 12 0 51 ((rg (rs M 1356 0 (nx (rg M 12 0 51)) x5) 12 0 51) + (1 : Int32))))) (b := zin (rg M 12 0 51) 20 && true) (by decide +kernel) rfl hg7 ?_
  cases h
  exact zret_i Hy.1 Hy.2.2 hE (by decide +kernel)
def m12_fact (x1 : Int32) (x2 : Int32) (x3 : Int32) (x4 : Int32) (x5 : Int32) (M : rM) : Option (Int32 × rM) := zbd (m12_isBox x1 M) (fun r1 M1 => (if r1 = 0 then some ((-2 : Int32), M1) else zbd (m12_isBox x2 M1) (fun r2 M2 => (if r2 = 0 then some ((-2 : Int32), M2) else zbd (m12_isBox x3 M2) (fun r3 M3 => (if r3 = 0 then some ((-2 : Int32), M3) else (if x2 = x3 then some ((-2 : Int32), M3) else zbd (m12_in x4 (-999 : Int32) (999 : Int32) M3) (fun r4 M4 => (if r4 = 0 then some ((-3 : Int32), M4) else zbd (m12_in x5 x4 (999 : Int32) M4) (fun r5 M5 => (if r5 = 0 then some ((-3 : Int32), M5) else (if (rg M5 12 0 51) = (20 : Int32) then some ((-5 : Int32), M5) else zgd (zin (rg M5 12 0 51) 20 && (zin (rg (rs M5 1352 0 (nx (rg M5 12 0 51)) x1) 12 0 51) 20 && (zin (rg (rs (rs M5 1352 0 (nx (rg M5 12 0 51)) x1) 1353 0 (nx (rg (rs M5 1352 0 (nx (rg M5 12 0 51)) x1) 12 0 51)) x2) 12 0 51) 20 && (zin (rg (rs (rs (rs M5 1352 0 (nx (rg M5 12 0 51)) x1) 1353 0 (nx (rg (rs M5 1352 0 (nx (rg M5 12 0 51)) x1) 12 0 51)) x2) 1354 0 (nx (rg (rs (rs M5 1352 0 (nx (rg M5 12 0 51)) x1) 1353 0 (nx (rg (rs M5 1352 0 (nx (rg M5 12 0 51)) x1) 12 0 51)) x2) 12 0 51)) x3) 12 0 51) 20 && true)))) (m12_fact_115 x5 (rs (rs (rs (rs M5 1352 0 (nx (rg M5 12 0 51)) x1) 1353 0 (nx (rg (rs M5 1352 0 (nx (rg M5 12 0 51)) x1) 12 0 51)) x2) 1354 0 (nx (rg (rs (rs M5 1352 0 (nx (rg M5 12 0 51)) x1) 1353 0 (nx (rg (rs M5 1352 0 (nx (rg M5 12 0 51)) x1) 12 0 51)) x2) 12 0 51)) x3) 1355 0 (nx (rg (rs (rs (rs M5 1352 0 (nx (rg M5 12 0 51)) x1) 1353 0 (nx (rg (rs M5 1352 0 (nx (rg M5 12 0 51)) x1) 12 0 51)) x2) 1354 0 (nx (rg (rs (rs M5 1352 0 (nx (rg M5 12 0 51)) x1) 1353 0 (nx (rg (rs M5 1352 0 (nx (rg M5 12 0 51)) x1) 12 0 51)) x2) 12 0 51)) x3) 12 0 51)) x4))))))))))))))
theorem m12_fact_ok {X : zX} {G : zG} (Hy : zHy X G q12_fact zcR 2 43 (some .int)) {r : Int32} {M' : rM} (hE : zEnd X G (some (.inl r)) (zfR M')) (x1 : Int32) (x2 : Int32) (x3 : Int32) (x4 : Int32) (x5 : Int32) (M : rM) (h : m12_fact x1 x2 x3 x4 x5 M = some (r, M')) : zGo (X, q12_fact, G) 0 0 (0, [(0, .inr (.inr (some (12, 0)))), (1, .inl x1), (2, .inl x2), (3, .inl x3), (4, .inl x4), (5, .inl x5)], [], zfR M) := by
  unfold m12_fact at h
  refine zblq Hy.1 Hy.2.1 [(.aload 0, 1), (.iload 1, 1)] (S' := (2, [(0, .inr (.inr (some (12, 0)))), (1, .inl x1), (2, .inl x2), (3, .inl x3), (4, .inl x4), (5, .inl x5)], [.inl x1, .inr (.inr (some (12, 0)))], zfR M)) (b := true) (by decide +kernel) rfl rfl ?_
  obtain ⟨r1, M1, hc1, h⟩ := zbd_inv h
  refine zcallV Hy.1 (as := [.inl x1]) (st := []) (m12_isBox_met (zOK_G Hy.1) Hy.2.1 hc1) cw12_175 m12_isBox_in m12_isBox_se (by decide) (zhlv Hy.2.1 rfl) rfl (zroom Hy.2.2 ⟨by decide, by decide⟩) rfl (by decide +kernel) ⟨Nat.zero_le _, Nat.zero_le _⟩ ?_
  refine zif_eq Hy.1 (off := 24) (tgt := 29) (by decide +kernel) (by decide) (fun hb14 => ?_) (fun hb14 => ?_)
  · replace h := zite_t h hb14
    refine zblq Hy.1 Hy.2.1 [(.iconst (-2), 2)] (S' := (31, [(0, .inr (.inr (some (12, 0)))), (1, .inl x1), (2, .inl x2), (3, .inl x3), (4, .inl x4), (5, .inl x5)], [.inl (-2 : Int32)], zfR M1)) (b := true) (by decide +kernel) rfl rfl ?_
    cases h
    exact zret_i Hy.1 Hy.2.2 hE (by decide +kernel)
  · replace h := zite_f h hb14
    refine zblq Hy.1 Hy.2.1 [(.aload 0, 1), (.iload 2, 1)] (S' := (10, [(0, .inr (.inr (some (12, 0)))), (1, .inl x1), (2, .inl x2), (3, .inl x3), (4, .inl x4), (5, .inl x5)], [.inl x2, .inr (.inr (some (12, 0)))], zfR M1)) (b := true) (by decide +kernel) rfl rfl ?_
    obtain ⟨r2, M2, hc2, h⟩ := zbd_inv h
    refine zcallV Hy.1 (as := [.inl x2]) (st := []) (m12_isBox_met (zOK_G Hy.1) Hy.2.1 hc2) cw12_175 m12_isBox_in m12_isBox_se (by decide) (zhlv Hy.2.1 rfl) rfl (zroom Hy.2.2 ⟨by decide, by decide⟩) rfl (by decide +kernel) ⟨Nat.zero_le _, Nat.zero_le _⟩ ?_
    refine zif_eq Hy.1 (off := 16) (tgt := 29) (by decide +kernel) (by decide) (fun hb13 => ?_) (fun hb13 => ?_)
    · replace h := zite_t h hb13
      refine zblq Hy.1 Hy.2.1 [(.iconst (-2), 2)] (S' := (31, [(0, .inr (.inr (some (12, 0)))), (1, .inl x1), (2, .inl x2), (3, .inl x3), (4, .inl x4), (5, .inl x5)], [.inl (-2 : Int32)], zfR M2)) (b := true) (by decide +kernel) rfl rfl ?_
      cases h
      exact zret_i Hy.1 Hy.2.2 hE (by decide +kernel)
    · replace h := zite_f h hb13
      refine zblq Hy.1 Hy.2.1 [(.aload 0, 1), (.iload 3, 1)] (S' := (18, [(0, .inr (.inr (some (12, 0)))), (1, .inl x1), (2, .inl x2), (3, .inl x3), (4, .inl x4), (5, .inl x5)], [.inl x3, .inr (.inr (some (12, 0)))], zfR M2)) (b := true) (by decide +kernel) rfl rfl ?_
      obtain ⟨r3, M3, hc3, h⟩ := zbd_inv h
      refine zcallV Hy.1 (as := [.inl x3]) (st := []) (m12_isBox_met (zOK_G Hy.1) Hy.2.1 hc3) cw12_175 m12_isBox_in m12_isBox_se (by decide) (zhlv Hy.2.1 rfl) rfl (zroom Hy.2.2 ⟨by decide, by decide⟩) rfl (by decide +kernel) ⟨Nat.zero_le _, Nat.zero_le _⟩ ?_
      refine zif_eq Hy.1 (off := 8) (tgt := 29) (by decide +kernel) (by decide) (fun hb12 => ?_) (fun hb12 => ?_)
      · replace h := zite_t h hb12
        refine zblq Hy.1 Hy.2.1 [(.iconst (-2), 2)] (S' := (31, [(0, .inr (.inr (some (12, 0)))), (1, .inl x1), (2, .inl x2), (3, .inl x3), (4, .inl x4), (5, .inl x5)], [.inl (-2 : Int32)], zfR M3)) (b := true) (by decide +kernel) rfl rfl ?_
        cases h
        exact zret_i Hy.1 Hy.2.2 hE (by decide +kernel)
      · replace h := zite_f h hb12
        refine zblq Hy.1 Hy.2.1 [(.iload 2, 1), (.iload 3, 1)] (S' := (26, [(0, .inr (.inr (some (12, 0)))), (1, .inl x1), (2, .inl x2), (3, .inl x3), (4, .inl x4), (5, .inl x5)], [.inl x3, .inl x2], zfR M3)) (b := true) (by decide +kernel) rfl rfl ?_
        refine zic_ne Hy.1 (off := 6) (tgt := 32) (by decide +kernel) (by decide) (fun hb11 => ?_) (fun hb11 => ?_)
        · replace h := zite_f h hb11
          refine zblq Hy.1 Hy.2.1 [(.iload 4, 2), (.iconst (-999), 3), (.iconst 999, 3)] (S' := (40, [(0, .inr (.inr (some (12, 0)))), (1, .inl x1), (2, .inl x2), (3, .inl x3), (4, .inl x4), (5, .inl x5)], [.inl (999 : Int32), .inl (-999 : Int32), .inl x4], zfR M3)) (b := true) (by decide +kernel) rfl rfl ?_
          obtain ⟨r4, M4, hc4, h⟩ := zbd_inv h
          refine zcallS Hy.1 (as := [.inl x4, .inl (-999 : Int32), .inl (999 : Int32)]) (st := []) (m12_in_met (zOK_G Hy.1) Hy.2.1 hc4) cw12_171 m12_in_in rfl (zroom Hy.2.2 ⟨by decide, by decide⟩) rfl (by decide +kernel) ⟨Nat.zero_le _, Nat.zero_le _⟩ ?_
          refine zif_eq Hy.1 (off := 16) (tgt := 59) (by decide +kernel) (by decide) (fun hb10 => ?_) (fun hb10 => ?_)
          · replace h := zite_t h hb10
            refine zblq Hy.1 Hy.2.1 [(.iconst (-3), 2)] (S' := (61, [(0, .inr (.inr (some (12, 0)))), (1, .inl x1), (2, .inl x2), (3, .inl x3), (4, .inl x4), (5, .inl x5)], [.inl (-3 : Int32)], zfR M4)) (b := true) (by decide +kernel) rfl rfl ?_
            cases h
            exact zret_i Hy.1 Hy.2.2 hE (by decide +kernel)
          · replace h := zite_f h hb10
            refine zblq Hy.1 Hy.2.1 [(.iload 5, 2), (.iload 4, 2), (.iconst 999, 3)] (S' := (53, [(0, .inr (.inr (some (12, 0)))), (1, .inl x1), (2, .inl x2), (3, .inl x3), (4, .inl x4), (5, .inl x5)], [.inl (999 : Int32), .inl x4, .inl x5], zfR M4)) (b := true) (by decide +kernel) rfl rfl ?_
            obtain ⟨r5, M5, hc5, h⟩ := zbd_inv h
            refine zcallS Hy.1 (as := [.inl x5, .inl x4, .inl (999 : Int32)]) (st := []) (m12_in_met (zOK_G Hy.1) Hy.2.1 hc5) cw12_171 m12_in_in rfl (zroom Hy.2.2 ⟨by decide, by decide⟩) rfl (by decide +kernel) ⟨Nat.zero_le _, Nat.zero_le _⟩ ?_
            refine zif_ne Hy.1 (off := 6) (tgt := 62) (by decide +kernel) (by decide) (fun hb9 => ?_) (fun hb9 => ?_)
            · replace h := zite_f h hb9
              refine zblq Hy.1 Hy.2.1 [(.aload 0, 1), (.multianewarray 12 51, 3), (.iconst 20, 2)] (S' := (68, [(0, .inr (.inr (some (12, 0)))), (1, .inl x1), (2, .inl x2), (3, .inl x3), (4, .inl x4), (5, .inl x5)], [.inl (20 : Int32), .inl (rg M5 12 0 51)], zfR M5)) (b := true) (by decide +kernel) rfl rfl ?_
              refine zic_ne Hy.1 (off := 6) (tgt := 74) (by decide +kernel) (by decide) (fun hb8 => ?_) (fun hb8 => ?_)
              · replace h := zite_f h hb8
                obtain ⟨hg6, h⟩ := zgd_inv h
                refine zblq Hy.1 Hy.2.1 [(.aload 0, 1), (.getfield 1252, 3), (.aload 0, 1), (.multianewarray 12 51, 3), (.iload 1, 1), (.iastore, 1), (.aload 0, 1), (.getfield 1253, 3), (.aload 0, 1), (.multianewarray 12 51, 3), (.iload 2, 1), (.iastore, 1), (.aload 0, 1), (.getfield 1254, 3), (.aload 0, 1), (.multianewarray 12 51, 3), (.iload 3, 1), (.iastore, 1), (.aload 0, 1), (.getfield 1255, 3), (.aload 0, 1), (.multianewarray 12 51, 3), (.iload 4, 2), (.iastore, 1)] (S' := (115, [(0, .inr (.inr (some (12, 0)))), (1, .inl x1), (2, .inl x2), (3, .inl x3), (4, .inl x4), (5, .inl x5)], [], zfR (rs (rs (rs (rs M5 1352 0 (nx (rg M5 12 0 51)) x1) 1353 0 (nx (rg (rs M5 1352 0 (nx (rg M5 12 0 51)) x1) 12 0 51)) x2) 1354 0 (nx (rg (rs (rs M5 1352 0 (nx (rg M5 12 0 51)) x1) 1353 0 (nx (rg (rs M5 1352 0 (nx (rg M5 12 0 51)) x1) 12 0 51)) x2) 12 0 51)) x3) 1355 0 (nx (rg (rs (rs (rs M5 1352 0 (nx (rg M5 12 0 51)) x1) 1353 0 (nx (rg (rs M5 1352 0 (nx (rg M5 12 0 51)) x1) 12 0 51)) x2) 1354 0 (nx (rg (rs (rs M5 1352 0 (nx (rg M5 12 0 51)) x1) 1353 0 (nx (rg (rs M5 1352 0 (nx (rg M5 12 0 51)) x1) 12 0 51)) x2) 12 0 51)) x3) 12 0 51)) x4))) (b := zin (rg M5 12 0 51) 20 && (zin (rg (rs M5 1352 0 (nx (rg M5 12 0 51)) x1) 12 0 51) 20 && (zin (rg (rs (rs M5 1352 0 (nx (rg M5 12 0 51)) x1) 1353 0 (nx (rg (rs M5 1352 0 (nx (rg M5 12 0 51)) x1) 12 0 51)) x2) 12 0 51) 20 && (zin (rg (rs (rs (rs M5 1352 0 (nx (rg M5 12 0 51)) x1) 1353 0 (nx (rg (rs M5 1352 0 (nx (rg M5 12 0 51)) x1) 12 0 51)) x2) 1354 0 (nx (rg (rs (rs M5 1352 0 (nx (rg M5 12 0 51)) x1) 1353 0 (nx (rg (rs M5 1352 0 (nx (rg M5 12 0 51)) x1) 12 0 51)) x2) 12 0 51)) x3) 12 0 51) 20 && true)))) (by decide +kernel) rfl hg6 ?_
                refine zGo_keep [0, 5] rfl ?_
                exact m12_fact_115_ok Hy hE x5 (rs (rs (rs (rs M5 1352 0 (nx (rg M5 12 0 51)) x1) 1353 0 (nx (rg (rs M5 1352 0 (nx (rg M5 12 0 51)) x1) 12 0 51)) x2) 1354 0 (nx (rg (rs (rs M5 1352 0 (nx (rg M5 12 0 51)) x1) 1353 0 (nx (rg (rs M5 1352 0 (nx (rg M5 12 0 51)) x1) 12 0 51)) x2) 12 0 51)) x3) 1355 0 (nx (rg (rs (rs (rs M5 1352 0 (nx (rg M5 12 0 51)) x1) 1353 0 (nx (rg (rs M5 1352 0 (nx (rg M5 12 0 51)) x1) 12 0 51)) x2) 1354 0 (nx (rg (rs (rs M5 1352 0 (nx (rg M5 12 0 51)) x1) 1353 0 (nx (rg (rs M5 1352 0 (nx (rg M5 12 0 51)) x1) 12 0 51)) x2) 12 0 51)) x3) 12 0 51)) x4) h
              · replace h := zite_t h hb8
                refine zblq Hy.1 Hy.2.1 [(.iconst (-5), 2)] (S' := (73, [(0, .inr (.inr (some (12, 0)))), (1, .inl x1), (2, .inl x2), (3, .inl x3), (4, .inl x4), (5, .inl x5)], [.inl (-5 : Int32)], zfR M5)) (b := true) (by decide +kernel) rfl rfl ?_
                cases h
                exact zret_i Hy.1 Hy.2.2 hE (by decide +kernel)
            · replace h := zite_t h hb9
              refine zblq Hy.1 Hy.2.1 [(.iconst (-3), 2)] (S' := (61, [(0, .inr (.inr (some (12, 0)))), (1, .inl x1), (2, .inl x2), (3, .inl x3), (4, .inl x4), (5, .inl x5)], [.inl (-3 : Int32)], zfR M5)) (b := true) (by decide +kernel) rfl rfl ?_
              cases h
              exact zret_i Hy.1 Hy.2.2 hE (by decide +kernel)
        · replace h := zite_t h hb11
          refine zblq Hy.1 Hy.2.1 [(.iconst (-2), 2)] (S' := (31, [(0, .inr (.inr (some (12, 0)))), (1, .inl x1), (2, .inl x2), (3, .inl x3), (4, .inl x4), (5, .inl x5)], [.inl (-2 : Int32)], zfR M3)) (b := true) (by decide +kernel) rfl rfl ?_
          cases h
          exact zret_i Hy.1 Hy.2.2 hE (by decide +kernel)
theorem m12_fact_met {l : Launch} {G : zG} (hG : zGok G) (hcn : zgcn G = zcR) {x1 : Int32} {x2 : Int32} {x3 : Int32} {x4 : Int32} {x5 : Int32} {M : rM} {r : Int32} {M' : rM} (h : m12_fact x1 x2 x3 x4 x5 M = some (r, M')) : zMet l G yX12_fact cX12_fact 6 (some .int) 2 43 [.inr (.inr (some (12, 0))), .inl x1, .inl x2, .inl x3, .inl x4, .inl x5] (zfR M) (some (.inl r)) (zfR M') :=
  zMet_of hG tbX12_ok rfl (by decide +kernel) (Nat.le_of_ble_eq_true rfl) (fun X _ Z hA hE => m12_fact_ok ⟨Z, hcn, hA⟩ hE x1 x2 x3 x4 x5 M h)
abbrev q12_lessen : ByteArray × Nat × String × zT := (cX12_lessen, 4, RX12, tbX12)
def m12_lessen_40 (t1 : Int32) (t2 : Int32) (M : rM) : Option rM := zgd (zin t1 100 && true) (some (rs M 1357 0 (nx t1) t2))
theorem m12_lessen_40_ok {X : zX} {G : zG} (Hy : zHy X G q12_lessen zcR 0 0 (none)) {M' : rM} (hE : zEnd X G (none) (zfR M')) (t1 : Int32) (t2 : Int32) (M : rM) (h : m12_lessen_40 t1 t2 M = some M') : zGo (X, q12_lessen, G) 0 0 (40, [], [.inl t2, .inl t1, .inr (.inr (some (1357, 0)))], zfR M) := by
  unfold m12_lessen_40 at h
  obtain ⟨hg3, h⟩ := zgd_inv h
  refine zblq Hy.1 Hy.2.1 [(.iastore, 1)] (S' := (41, [], [], zfR (rs M 1357 0 (nx t1) t2))) (b := zin t1 100 && true) (by decide +kernel) rfl hg3 ?_
  cases h
  exact zret_v Hy.1 Hy.2.2 hE (by decide +kernel)
def m12_lessen (x1 : Int32) (x2 : Int32) (x3 : Int32) (M : rM) : Option rM := zgd (zin (((10 : Int32) * x1) + x2) 100 && true) ((if (rg M 1357 0 (nx (((10 : Int32) * x1) + x2))) ≤ x3 then zgd (zin (((10 : Int32) * x1) + x2) 100 && true) (m12_lessen_40 (((10 : Int32) * x1) + x2) (rg M 1357 0 (nx (((10 : Int32) * x1) + x2))) M) else m12_lessen_40 (((10 : Int32) * x1) + x2) x3 M))
theorem m12_lessen_ok {X : zX} {G : zG} (Hy : zHy X G q12_lessen zcR 0 0 (none)) {M' : rM} (hE : zEnd X G (none) (zfR M')) (x1 : Int32) (x2 : Int32) (x3 : Int32) (M : rM) (h : m12_lessen x1 x2 x3 M = some M') : zGo (X, q12_lessen, G) 0 0 (0, [(0, .inr (.inr (some (12, 0)))), (1, .inl x1), (2, .inl x2), (3, .inl x3)], [], zfR M) := by
  unfold m12_lessen at h
  obtain ⟨hg1, h⟩ := zgd_inv h
  refine zblq Hy.1 Hy.2.1 [(.aload 0, 1), (.getfield 1257, 3), (.iconst 10, 2), (.iload 1, 1), (.imul, 1), (.iload 2, 1), (.iadd, 1), (.iload 3, 1), (.aload 0, 1), (.getfield 1257, 3), (.iconst 10, 2), (.iload 1, 1), (.imul, 1), (.iload 2, 1), (.iadd, 1), (.iaload, 1)] (S' := (22, [(0, .inr (.inr (some (12, 0)))), (1, .inl x1), (2, .inl x2), (3, .inl x3)], [.inl (rg M 1357 0 (nx (((10 : Int32) * x1) + x2))), .inl x3, .inl (((10 : Int32) * x1) + x2), .inr (.inr (some (1357, 0)))], zfR M)) (b := zin (((10 : Int32) * x1) + x2) 100 && true) (by decide +kernel) rfl hg1 ?_
  refine zic_ge Hy.1 (off := 7) (tgt := 29) (by decide +kernel) (by decide) (fun hb4 => ?_) (fun hb4 => ?_)
  · replace h := zite_t h hb4
    obtain ⟨hg2, h⟩ := zgd_inv h
    refine zblq Hy.1 Hy.2.1 [(.aload 0, 1), (.getfield 1257, 3), (.iconst 10, 2), (.iload 1, 1), (.imul, 1), (.iload 2, 1), (.iadd, 1), (.iaload, 1)] (S' := (40, [(0, .inr (.inr (some (12, 0)))), (1, .inl x1), (2, .inl x2), (3, .inl x3)], [.inl (rg M 1357 0 (nx (((10 : Int32) * x1) + x2))), .inl (((10 : Int32) * x1) + x2), .inr (.inr (some (1357, 0)))], zfR M)) (b := zin (((10 : Int32) * x1) + x2) 100 && true) (by decide +kernel) rfl hg2 ?_
    refine zGo_keep [] rfl ?_
    exact m12_lessen_40_ok Hy hE (((10 : Int32) * x1) + x2) (rg M 1357 0 (nx (((10 : Int32) * x1) + x2))) M h
  · replace h := zite_f h hb4
    refine zblq Hy.1 Hy.2.1 [(.iload 3, 1), (.ldc 40, 3)] (S' := (40, [(0, .inr (.inr (some (12, 0)))), (1, .inl x1), (2, .inl x2), (3, .inl x3)], [.inl x3, .inl (((10 : Int32) * x1) + x2), .inr (.inr (some (1357, 0)))], zfR M)) (b := true) (by decide +kernel) rfl rfl ?_
    refine zGo_keep [] rfl ?_
    exact m12_lessen_40_ok Hy hE (((10 : Int32) * x1) + x2) x3 M h
theorem m12_lessen_met {l : Launch} {G : zG} (hG : zGok G) (hcn : zgcn G = zcR) {x1 : Int32} {x2 : Int32} {x3 : Int32} {M : rM} {M' : rM} (h : m12_lessen x1 x2 x3 M = some M') : zMet l G yX12_lessen cX12_lessen 4 (none) 0 0 [.inr (.inr (some (12, 0))), .inl x1, .inl x2, .inl x3] (zfR M) (none) (zfR M') :=
  zMet_of hG tbX12_ok rfl (by decide +kernel) (Nat.le_of_ble_eq_true rfl) (fun X _ Z hA hE => m12_lessen_ok ⟨Z, hcn, hA⟩ hE x1 x2 x3 M h)
abbrev q12_canBe : ByteArray × Nat × String × zT := (cX12_canBe, 5, RX12, tbX12)
def m12_canBe_261 (k232 : Int32 → Int32 → rM → Option (Int32 × rM)) (x3 : Int32) (t0 : Int32) (M : rM) : Option (Int32 × rM) := k232 t0 (x3 + (1 : Int32)) M
theorem m12_canBe_261_ok {X : zX} {G : zG} (Hy : zHy X G q12_canBe zcR 1 23 (some .boolean)) {r : Int32} {M' : rM} (hE : zEnd X G (some (.inl r)) (zfR M')) {k232 : Int32 → Int32 → rM → Option (Int32 × rM)} (hk232 : ∀ (x2 : Int32) (x3 : Int32) (M : rM), k232 x2 x3 M = some (r, M') → zGo (X, q12_canBe, G) 0 0 (232, [(0, .inr (.inr (some (12, 0)))), (2, .inl x2), (3, .inl x3)], [], zfR M)) (x3 : Int32) (t0 : Int32) (M : rM) (h : m12_canBe_261 k232 x3 t0 M = some (r, M')) : zGo (X, q12_canBe, G) 0 0 (261, [(0, .inr (.inr (some (12, 0)))), (3, .inl x3)], [.inl t0], zfR M) := by
  unfold m12_canBe_261 at h
  refine zblq Hy.1 Hy.2.1 [(.istore 2, 1), (.iinc 3 1, 3), (.ldc 232, 3)] (S' := (232, [(0, .inr (.inr (some (12, 0)))), (2, .inl t0), (3, .inl (x3 + (1 : Int32)))], [], zfR M)) (b := true) (by decide +kernel) rfl rfl ?_
  refine zGo_keep [0, 2, 3] rfl ?_
  exact hk232 t0 (x3 + (1 : Int32)) M h
def m12_canBe_232 : Nat → Int32 → Int32 → rM → Option (Int32 × rM)
  | 0, _, _, _ => none
  | n + 1, x2, x3, M => (if (rg M 12 0 0) ≤ x3 then zgd (zbl x2) (some (x2, M)) else (if x2 = 0 then m12_canBe_261 (m12_canBe_232 n) x3 (0 : Int32) M else zgd (zin ((11 : Int32) * x3) 100 && true) ((if (rg M 1357 0 (nx ((11 : Int32) * x3))) < 0 then m12_canBe_261 (m12_canBe_232 n) x3 (0 : Int32) M else m12_canBe_261 (m12_canBe_232 n) x3 (1 : Int32) M))))
theorem m12_canBe_232_ok {X : zX} {G : zG} (Hy : zHy X G q12_canBe zcR 1 23 (some .boolean)) {r : Int32} {M' : rM} (hE : zEnd X G (some (.inl r)) (zfR M')) : ∀ (n : Nat) (x2 : Int32) (x3 : Int32) (M : rM), m12_canBe_232 n x2 x3 M = some (r, M') → zGo (X, q12_canBe, G) 0 0 (232, [(0, .inr (.inr (some (12, 0)))), (2, .inl x2), (3, .inl x3)], [], zfR M) := by
  intro n
  induction n with
  | zero => intro x2 x3 M h; cases h
  | succ n ih =>
    intro x2 x3 M h
    unfold m12_canBe_232 at h
    refine zblq Hy.1 Hy.2.1 [(.iload 3, 1), (.aload 0, 1), (.multianewarray 12 0, 3)] (S' := (237, [(0, .inr (.inr (some (12, 0)))), (2, .inl x2), (3, .inl x3)], [.inl (rg M 12 0 0), .inl x3], zfR M)) (b := true) (by decide +kernel) rfl rfl ?_
    refine zic_ge Hy.1 (off := 31) (tgt := 268) (by decide +kernel) (by decide) (fun hb5 => ?_) (fun hb5 => ?_)
    · replace h := zite_t h hb5
      refine zblq Hy.1 Hy.2.1 [(.iload 2, 1)] (S' := (269, [(0, .inr (.inr (some (12, 0)))), (2, .inl x2), (3, .inl x3)], [.inl x2], zfR M)) (b := true) (by decide +kernel) rfl rfl ?_
      obtain ⟨hg1, h⟩ := zgd_inv h
      cases h
      exact zret_z Hy.1 Hy.2.2 hg1 hE (by decide +kernel)
    · replace h := zite_f h hb5
      refine zblq Hy.1 Hy.2.1 [(.iload 2, 1)] (S' := (241, [(0, .inr (.inr (some (12, 0)))), (2, .inl x2), (3, .inl x3)], [.inl x2], zfR M)) (b := true) (by decide +kernel) rfl rfl ?_
      refine zif_eq Hy.1 (off := 19) (tgt := 260) (by decide +kernel) (by decide) (fun hb4 => ?_) (fun hb4 => ?_)
      · replace h := zite_t h hb4
        refine zblq Hy.1 Hy.2.1 [(.iconst 0, 1)] (S' := (261, [(0, .inr (.inr (some (12, 0)))), (2, .inl x2), (3, .inl x3)], [.inl (0 : Int32)], zfR M)) (b := true) (by decide +kernel) rfl rfl ?_
        refine zGo_keep [0, 3] rfl ?_
        exact m12_canBe_261_ok Hy hE ih x3 (0 : Int32) M h
      · replace h := zite_f h hb4
        obtain ⟨hg2, h⟩ := zgd_inv h
        refine zblq Hy.1 Hy.2.1 [(.aload 0, 1), (.getfield 1257, 3), (.iconst 11, 2), (.iload 3, 1), (.imul, 1), (.iaload, 1)] (S' := (253, [(0, .inr (.inr (some (12, 0)))), (2, .inl x2), (3, .inl x3)], [.inl (rg M 1357 0 (nx ((11 : Int32) * x3)))], zfR M)) (b := zin ((11 : Int32) * x3) 100 && true) (by decide +kernel) rfl hg2 ?_
        refine zif_lt Hy.1 (off := 7) (tgt := 260) (by decide +kernel) (by decide) (fun hb3 => ?_) (fun hb3 => ?_)
        · replace h := zite_t h hb3
          refine zblq Hy.1 Hy.2.1 [(.iconst 0, 1)] (S' := (261, [(0, .inr (.inr (some (12, 0)))), (2, .inl x2), (3, .inl x3)], [.inl (0 : Int32)], zfR M)) (b := true) (by decide +kernel) rfl rfl ?_
          refine zGo_keep [0, 3] rfl ?_
          exact m12_canBe_261_ok Hy hE ih x3 (0 : Int32) M h
        · replace h := zite_f h hb3
          refine zblq Hy.1 Hy.2.1 [(.iconst 1, 1), (.ldc 261, 3)] (S' := (261, [(0, .inr (.inr (some (12, 0)))), (2, .inl x2), (3, .inl x3)], [.inl (1 : Int32)], zfR M)) (b := true) (by decide +kernel) rfl rfl ?_
          refine zGo_keep [0, 3] rfl ?_
          exact m12_canBe_261_ok Hy hE ih x3 (1 : Int32) M h
def m12_canBe_210 (k114 : Int32 → rM → Option (Int32 × rM)) (k124 : Int32 → Int32 → rM → Option (Int32 × rM)) (k135 : Int32 → Int32 → Int32 → rM → Option (Int32 × rM)) (x2 : Int32) (x3 : Int32) (x4 : Int32) (M : rM) : Option (Int32 × rM) := k135 x2 x3 (x4 + (1 : Int32)) M
theorem m12_canBe_210_ok {X : zX} {G : zG} (Hy : zHy X G q12_canBe zcR 1 23 (some .boolean)) {r : Int32} {M' : rM} (hE : zEnd X G (some (.inl r)) (zfR M')) {k114 : Int32 → rM → Option (Int32 × rM)} (hk114 : ∀ (x2 : Int32) (M : rM), k114 x2 M = some (r, M') → zGo (X, q12_canBe, G) 0 0 (114, [(0, .inr (.inr (some (12, 0)))), (2, .inl x2)], [], zfR M)) {k124 : Int32 → Int32 → rM → Option (Int32 × rM)} (hk124 : ∀ (x2 : Int32) (x3 : Int32) (M : rM), k124 x2 x3 M = some (r, M') → zGo (X, q12_canBe, G) 0 0 (124, [(0, .inr (.inr (some (12, 0)))), (2, .inl x2), (3, .inl x3)], [], zfR M)) {k135 : Int32 → Int32 → Int32 → rM → Option (Int32 × rM)} (hk135 : ∀ (x2 : Int32) (x3 : Int32) (x4 : Int32) (M : rM), k135 x2 x3 x4 M = some (r, M') → zGo (X, q12_canBe, G) 0 0 (135, [(0, .inr (.inr (some (12, 0)))), (2, .inl x2), (3, .inl x3), (4, .inl x4)], [], zfR M)) (x2 : Int32) (x3 : Int32) (x4 : Int32) (M : rM) (h : m12_canBe_210 k114 k124 k135 x2 x3 x4 M = some (r, M')) : zGo (X, q12_canBe, G) 0 0 (210, [(0, .inr (.inr (some (12, 0)))), (2, .inl x2), (3, .inl x3), (4, .inl x4)], [], zfR M) := by
  unfold m12_canBe_210 at h
  refine zblq Hy.1 Hy.2.1 [(.iinc 4 1, 3), (.ldc 135, 3)] (S' := (135, [(0, .inr (.inr (some (12, 0)))), (2, .inl x2), (3, .inl x3), (4, .inl (x4 + (1 : Int32)))], [], zfR M)) (b := true) (by decide +kernel) rfl rfl ?_
  refine zGo_keep [0, 2, 3, 4] rfl ?_
  exact hk135 x2 x3 (x4 + (1 : Int32)) M h
def m12_canBe_135 (k114 : Int32 → rM → Option (Int32 × rM)) (k124 : Int32 → Int32 → rM → Option (Int32 × rM)) : Nat → Int32 → Int32 → Int32 → rM → Option (Int32 × rM)
  | 0, _, _, _, _ => none
  | n + 1, x2, x3, x4, M => (if (rg M 12 0 0) ≤ x4 then k124 x2 (x3 + (1 : Int32)) M else zgd (zin (((10 : Int32) * x3) + x2) 100 && true) ((if (9999 : Int32) ≤ (rg M 1357 0 (nx (((10 : Int32) * x3) + x2))) then m12_canBe_210 k114 k124 (m12_canBe_135 k114 k124 n) x2 x3 x4 M else zgd (zin (((10 : Int32) * x2) + x4) 100 && true) ((if (9999 : Int32) ≤ (rg M 1357 0 (nx (((10 : Int32) * x2) + x4))) then m12_canBe_210 k114 k124 (m12_canBe_135 k114 k124 n) x2 x3 x4 M else zgd (zin (((10 : Int32) * x3) + x2) 100 && (zin (((10 : Int32) * x2) + x4) 100 && true)) (zbv (m12_lessen x3 x4 ((rg M 1357 0 (nx (((10 : Int32) * x3) + x2))) + (rg M 1357 0 (nx (((10 : Int32) * x2) + x4)))) M) (fun M9 => m12_canBe_210 k114 k124 (m12_canBe_135 k114 k124 n) x2 x3 x4 M9)))))))
theorem m12_canBe_135_ok {X : zX} {G : zG} (Hy : zHy X G q12_canBe zcR 1 23 (some .boolean)) {r : Int32} {M' : rM} (hE : zEnd X G (some (.inl r)) (zfR M')) {k114 : Int32 → rM → Option (Int32 × rM)} (hk114 : ∀ (x2 : Int32) (M : rM), k114 x2 M = some (r, M') → zGo (X, q12_canBe, G) 0 0 (114, [(0, .inr (.inr (some (12, 0)))), (2, .inl x2)], [], zfR M)) {k124 : Int32 → Int32 → rM → Option (Int32 × rM)} (hk124 : ∀ (x2 : Int32) (x3 : Int32) (M : rM), k124 x2 x3 M = some (r, M') → zGo (X, q12_canBe, G) 0 0 (124, [(0, .inr (.inr (some (12, 0)))), (2, .inl x2), (3, .inl x3)], [], zfR M)) : ∀ (n : Nat) (x2 : Int32) (x3 : Int32) (x4 : Int32) (M : rM), m12_canBe_135 k114 k124 n x2 x3 x4 M = some (r, M') → zGo (X, q12_canBe, G) 0 0 (135, [(0, .inr (.inr (some (12, 0)))), (2, .inl x2), (3, .inl x3), (4, .inl x4)], [], zfR M) := by
  intro n
  induction n with
  | zero => intro x2 x3 x4 M h; cases h
  | succ n ih =>
    intro x2 x3 x4 M h
    unfold m12_canBe_135 at h
    refine zblq Hy.1 Hy.2.1 [(.iload 4, 2), (.aload 0, 1), (.multianewarray 12 0, 3)] (S' := (141, [(0, .inr (.inr (some (12, 0)))), (2, .inl x2), (3, .inl x3), (4, .inl x4)], [.inl (rg M 12 0 0), .inl x4], zfR M)) (b := true) (by decide +kernel) rfl rfl ?_
    refine zic_ge Hy.1 (off := 75) (tgt := 216) (by decide +kernel) (by decide) (fun hb12 => ?_) (fun hb12 => ?_)
    · replace h := zite_t h hb12
      refine zblq Hy.1 Hy.2.1 [(.iinc 3 1, 3), (.ldc 124, 3)] (S' := (124, [(0, .inr (.inr (some (12, 0)))), (2, .inl x2), (3, .inl (x3 + (1 : Int32))), (4, .inl x4)], [], zfR M)) (b := true) (by decide +kernel) rfl rfl ?_
      refine zGo_keep [0, 2, 3] rfl ?_
      exact hk124 x2 (x3 + (1 : Int32)) M h
    · replace h := zite_f h hb12
      obtain ⟨hg6, h⟩ := zgd_inv h
      refine zblq Hy.1 Hy.2.1 [(.aload 0, 1), (.getfield 1257, 3), (.iconst 10, 2), (.iload 3, 1), (.imul, 1), (.iload 2, 1), (.iadd, 1), (.iaload, 1), (.iconst 9999, 3)] (S' := (158, [(0, .inr (.inr (some (12, 0)))), (2, .inl x2), (3, .inl x3), (4, .inl x4)], [.inl (9999 : Int32), .inl (rg M 1357 0 (nx (((10 : Int32) * x3) + x2)))], zfR M)) (b := zin (((10 : Int32) * x3) + x2) 100 && true) (by decide +kernel) rfl hg6 ?_
      refine zic_ge Hy.1 (off := 52) (tgt := 210) (by decide +kernel) (by decide) (fun hb11 => ?_) (fun hb11 => ?_)
      · replace h := zite_t h hb11
        refine zGo_keep [0, 2, 3, 4] rfl ?_
        exact m12_canBe_210_ok Hy hE hk114 hk124 ih x2 x3 x4 M h
      · replace h := zite_f h hb11
        obtain ⟨hg7, h⟩ := zgd_inv h
        refine zblq Hy.1 Hy.2.1 [(.aload 0, 1), (.getfield 1257, 3), (.iconst 10, 2), (.iload 2, 1), (.imul, 1), (.iload 4, 2), (.iadd, 1), (.iaload, 1), (.iconst 9999, 3)] (S' := (176, [(0, .inr (.inr (some (12, 0)))), (2, .inl x2), (3, .inl x3), (4, .inl x4)], [.inl (9999 : Int32), .inl (rg M 1357 0 (nx (((10 : Int32) * x2) + x4)))], zfR M)) (b := zin (((10 : Int32) * x2) + x4) 100 && true) (by decide +kernel) rfl hg7 ?_
        refine zic_ge Hy.1 (off := 34) (tgt := 210) (by decide +kernel) (by decide) (fun hb10 => ?_) (fun hb10 => ?_)
        · replace h := zite_t h hb10
          refine zGo_keep [0, 2, 3, 4] rfl ?_
          exact m12_canBe_210_ok Hy hE hk114 hk124 ih x2 x3 x4 M h
        · replace h := zite_f h hb10
          obtain ⟨hg8, h⟩ := zgd_inv h
          refine zblq Hy.1 Hy.2.1 [(.aload 0, 1), (.iload 3, 1), (.iload 4, 2), (.aload 0, 1), (.getfield 1257, 3), (.iconst 10, 2), (.iload 3, 1), (.imul, 1), (.iload 2, 1), (.iadd, 1), (.iaload, 1), (.aload 0, 1), (.getfield 1257, 3), (.iconst 10, 2), (.iload 2, 1), (.imul, 1), (.iload 4, 2), (.iadd, 1), (.iaload, 1), (.iadd, 1)] (S' := (207, [(0, .inr (.inr (some (12, 0)))), (2, .inl x2), (3, .inl x3), (4, .inl x4)], [.inl ((rg M 1357 0 (nx (((10 : Int32) * x3) + x2))) + (rg M 1357 0 (nx (((10 : Int32) * x2) + x4)))), .inl x4, .inl x3, .inr (.inr (some (12, 0)))], zfR M)) (b := zin (((10 : Int32) * x3) + x2) 100 && (zin (((10 : Int32) * x2) + x4) 100 && true)) (by decide +kernel) rfl hg8 ?_
          obtain ⟨M9, hc9, h⟩ := zbv_inv h
          refine zcallV Hy.1 (as := [.inl x3, .inl x4, .inl ((rg M 1357 0 (nx (((10 : Int32) * x3) + x2))) + (rg M 1357 0 (nx (((10 : Int32) * x2) + x4))))]) (st := []) (m12_lessen_met (zOK_G Hy.1) Hy.2.1 hc9) cw12_385 m12_lessen_in m12_lessen_se (by decide) (zhlv Hy.2.1 rfl) rfl (zroom Hy.2.2 ⟨by decide, by decide⟩) rfl (by decide +kernel) ⟨Nat.zero_le _, Nat.zero_le _⟩ ?_
          refine zGo_keep [0, 2, 3, 4] rfl ?_
          exact m12_canBe_210_ok Hy hE hk114 hk124 ih x2 x3 x4 M9 h
def m12_canBe_124 (k114 : Int32 → rM → Option (Int32 × rM)) : Nat → Int32 → Int32 → rM → Option (Int32 × rM)
  | 0, _, _, _ => none
  | n + 1, x2, x3, M => (if (rg M 12 0 0) ≤ x3 then k114 (x2 + (1 : Int32)) M else m12_canBe_135 k114 (m12_canBe_124 k114 n) zfu x2 x3 (0 : Int32) M)
theorem m12_canBe_124_ok {X : zX} {G : zG} (Hy : zHy X G q12_canBe zcR 1 23 (some .boolean)) {r : Int32} {M' : rM} (hE : zEnd X G (some (.inl r)) (zfR M')) {k114 : Int32 → rM → Option (Int32 × rM)} (hk114 : ∀ (x2 : Int32) (M : rM), k114 x2 M = some (r, M') → zGo (X, q12_canBe, G) 0 0 (114, [(0, .inr (.inr (some (12, 0)))), (2, .inl x2)], [], zfR M)) : ∀ (n : Nat) (x2 : Int32) (x3 : Int32) (M : rM), m12_canBe_124 k114 n x2 x3 M = some (r, M') → zGo (X, q12_canBe, G) 0 0 (124, [(0, .inr (.inr (some (12, 0)))), (2, .inl x2), (3, .inl x3)], [], zfR M) := by
  intro n
  induction n with
  | zero => intro x2 x3 M h; cases h
  | succ n ih =>
    intro x2 x3 M h
    unfold m12_canBe_124 at h
    refine zblq Hy.1 Hy.2.1 [(.iload 3, 1), (.aload 0, 1), (.multianewarray 12 0, 3)] (S' := (129, [(0, .inr (.inr (some (12, 0)))), (2, .inl x2), (3, .inl x3)], [.inl (rg M 12 0 0), .inl x3], zfR M)) (b := true) (by decide +kernel) rfl rfl ?_
    refine zic_ge Hy.1 (off := 93) (tgt := 222) (by decide +kernel) (by decide) (fun hb13 => ?_) (fun hb13 => ?_)
    · replace h := zite_t h hb13
      refine zblq Hy.1 Hy.2.1 [(.iinc 2 1, 3), (.ldc 114, 3)] (S' := (114, [(0, .inr (.inr (some (12, 0)))), (2, .inl (x2 + (1 : Int32))), (3, .inl x3)], [], zfR M)) (b := true) (by decide +kernel) rfl rfl ?_
      refine zGo_keep [0, 2] rfl ?_
      exact hk114 (x2 + (1 : Int32)) M h
    · replace h := zite_f h hb13
      refine zblq Hy.1 Hy.2.1 [(.iconst 0, 1), (.istore 4, 2)] (S' := (135, [(0, .inr (.inr (some (12, 0)))), (2, .inl x2), (3, .inl x3), (4, .inl (0 : Int32))], [], zfR M)) (b := true) (by decide +kernel) rfl rfl ?_
      refine zGo_keep [0, 2, 3, 4] rfl ?_
      exact m12_canBe_135_ok Hy hE hk114 ih zfu x2 x3 (0 : Int32) M h
def m12_canBe_114 : Nat → Int32 → rM → Option (Int32 × rM)
  | 0, _, _ => none
  | n + 1, x2, M => (if (rg M 12 0 0) ≤ x2 then m12_canBe_232 zfu (1 : Int32) (0 : Int32) M else m12_canBe_124 (m12_canBe_114 n) zfu x2 (0 : Int32) M)
theorem m12_canBe_114_ok {X : zX} {G : zG} (Hy : zHy X G q12_canBe zcR 1 23 (some .boolean)) {r : Int32} {M' : rM} (hE : zEnd X G (some (.inl r)) (zfR M')) : ∀ (n : Nat) (x2 : Int32) (M : rM), m12_canBe_114 n x2 M = some (r, M') → zGo (X, q12_canBe, G) 0 0 (114, [(0, .inr (.inr (some (12, 0)))), (2, .inl x2)], [], zfR M) := by
  intro n
  induction n with
  | zero => intro x2 M h; cases h
  | succ n ih =>
    intro x2 M h
    unfold m12_canBe_114 at h
    refine zblq Hy.1 Hy.2.1 [(.iload 2, 1), (.aload 0, 1), (.multianewarray 12 0, 3)] (S' := (119, [(0, .inr (.inr (some (12, 0)))), (2, .inl x2)], [.inl (rg M 12 0 0), .inl x2], zfR M)) (b := true) (by decide +kernel) rfl rfl ?_
    refine zic_ge Hy.1 (off := 109) (tgt := 228) (by decide +kernel) (by decide) (fun hb14 => ?_) (fun hb14 => ?_)
    · replace h := zite_t h hb14
      refine zblq Hy.1 Hy.2.1 [(.iconst 1, 1), (.istore 2, 1), (.iconst 0, 1), (.istore 3, 1)] (S' := (232, [(0, .inr (.inr (some (12, 0)))), (2, .inl (1 : Int32)), (3, .inl (0 : Int32))], [], zfR M)) (b := true) (by decide +kernel) rfl rfl ?_
      refine zGo_keep [0, 2, 3] rfl ?_
      exact m12_canBe_232_ok Hy hE zfu (1 : Int32) (0 : Int32) M h
    · replace h := zite_f h hb14
      refine zblq Hy.1 Hy.2.1 [(.iconst 0, 1), (.istore 3, 1)] (S' := (124, [(0, .inr (.inr (some (12, 0)))), (2, .inl x2), (3, .inl (0 : Int32))], [], zfR M)) (b := true) (by decide +kernel) rfl rfl ?_
      refine zGo_keep [0, 2, 3] rfl ?_
      exact m12_canBe_124_ok Hy hE ih zfu x2 (0 : Int32) M h
def m12_canBe_106 (k40 : Int32 → Int32 → rM → Option (Int32 × rM)) (x1 : Int32) (x2 : Int32) (M : rM) : Option (Int32 × rM) := k40 x1 (x2 + (1 : Int32)) M
theorem m12_canBe_106_ok {X : zX} {G : zG} (Hy : zHy X G q12_canBe zcR 1 23 (some .boolean)) {r : Int32} {M' : rM} (hE : zEnd X G (some (.inl r)) (zfR M')) {k40 : Int32 → Int32 → rM → Option (Int32 × rM)} (hk40 : ∀ (x1 : Int32) (x2 : Int32) (M : rM), k40 x1 x2 M = some (r, M') → zGo (X, q12_canBe, G) 0 0 (40, [(0, .inr (.inr (some (12, 0)))), (1, .inl x1), (2, .inl x2)], [], zfR M)) (x1 : Int32) (x2 : Int32) (M : rM) (h : m12_canBe_106 k40 x1 x2 M = some (r, M')) : zGo (X, q12_canBe, G) 0 0 (106, [(0, .inr (.inr (some (12, 0)))), (1, .inl x1), (2, .inl x2)], [], zfR M) := by
  unfold m12_canBe_106 at h
  refine zblq Hy.1 Hy.2.1 [(.iinc 2 1, 3), (.ldc 40, 3)] (S' := (40, [(0, .inr (.inr (some (12, 0)))), (1, .inl x1), (2, .inl (x2 + (1 : Int32)))], [], zfR M)) (b := true) (by decide +kernel) rfl rfl ?_
  refine zGo_keep [0, 1, 2] rfl ?_
  exact hk40 x1 (x2 + (1 : Int32)) M h
def m12_canBe_40 : Nat → Int32 → Int32 → rM → Option (Int32 × rM)
  | 0, _, _, _ => none
  | n + 1, x1, x2, M => (if (rg M 12 0 51) ≤ x2 then m12_canBe_114 zfu (0 : Int32) M else zgd (zin x2 20 && true) (zbd (m12_isIn x1 (rg M 1352 0 (nx x2)) M) (fun r16 M16 => (if r16 = 0 then zgd (zin x2 20 && (zin x2 20 && (zin x2 20 && true))) (zbv (m12_lessen (rg M16 1353 0 (nx x2)) (rg M16 1354 0 (nx x2)) (rg M16 1356 0 (nx x2)) M16) (fun M18 => zgd (zin x2 20 && (zin x2 20 && (zin x2 20 && true))) (zbv (m12_lessen (rg M18 1354 0 (nx x2)) (rg M18 1353 0 (nx x2)) (-(rg M18 1355 0 (nx x2))) M18) (fun M20 => m12_canBe_106 (m12_canBe_40 n) x1 x2 M20)))) else m12_canBe_106 (m12_canBe_40 n) x1 x2 M16))))
theorem m12_canBe_40_ok {X : zX} {G : zG} (Hy : zHy X G q12_canBe zcR 1 23 (some .boolean)) {r : Int32} {M' : rM} (hE : zEnd X G (some (.inl r)) (zfR M')) : ∀ (n : Nat) (x1 : Int32) (x2 : Int32) (M : rM), m12_canBe_40 n x1 x2 M = some (r, M') → zGo (X, q12_canBe, G) 0 0 (40, [(0, .inr (.inr (some (12, 0)))), (1, .inl x1), (2, .inl x2)], [], zfR M) := by
  intro n
  induction n with
  | zero => intro x1 x2 M h; cases h
  | succ n ih =>
    intro x1 x2 M h
    unfold m12_canBe_40 at h
    refine zblq Hy.1 Hy.2.1 [(.iload 2, 1), (.aload 0, 1), (.multianewarray 12 51, 3)] (S' := (45, [(0, .inr (.inr (some (12, 0)))), (1, .inl x1), (2, .inl x2)], [.inl (rg M 12 0 51), .inl x2], zfR M)) (b := true) (by decide +kernel) rfl rfl ?_
    refine zic_ge Hy.1 (off := 67) (tgt := 112) (by decide +kernel) (by decide) (fun hb22 => ?_) (fun hb22 => ?_)
    · replace h := zite_t h hb22
      refine zblq Hy.1 Hy.2.1 [(.iconst 0, 1), (.istore 2, 1)] (S' := (114, [(0, .inr (.inr (some (12, 0)))), (1, .inl x1), (2, .inl (0 : Int32))], [], zfR M)) (b := true) (by decide +kernel) rfl rfl ?_
      refine zGo_keep [0, 2] rfl ?_
      exact m12_canBe_114_ok Hy hE zfu (0 : Int32) M h
    · replace h := zite_f h hb22
      obtain ⟨hg15, h⟩ := zgd_inv h
      refine zblq Hy.1 Hy.2.1 [(.iload 1, 1), (.aload 0, 1), (.getfield 1252, 3), (.iload 2, 1), (.iaload, 1)] (S' := (55, [(0, .inr (.inr (some (12, 0)))), (1, .inl x1), (2, .inl x2)], [.inl (rg M 1352 0 (nx x2)), .inl x1], zfR M)) (b := zin x2 20 && true) (by decide +kernel) rfl hg15 ?_
      obtain ⟨r16, M16, hc16, h⟩ := zbd_inv h
      refine zcallS Hy.1 (as := [.inl x1, .inl (rg M 1352 0 (nx x2))]) (st := []) (m12_isIn_met (zOK_G Hy.1) Hy.2.1 hc16) cw12_183 m12_isIn_in rfl (zroom Hy.2.2 ⟨by decide, by decide⟩) rfl (by decide +kernel) ⟨Nat.zero_le _, Nat.zero_le _⟩ ?_
      refine zif_ne Hy.1 (off := 48) (tgt := 106) (by decide +kernel) (by decide) (fun hb21 => ?_) (fun hb21 => ?_)
      · replace h := zite_f h hb21
        refine zGo_keep [0, 1, 2] rfl ?_
        exact m12_canBe_106_ok Hy hE ih x1 x2 M16 h
      · replace h := zite_t h hb21
        obtain ⟨hg17, h⟩ := zgd_inv h
        refine zblq Hy.1 Hy.2.1 [(.aload 0, 1), (.aload 0, 1), (.getfield 1253, 3), (.iload 2, 1), (.iaload, 1), (.aload 0, 1), (.getfield 1254, 3), (.iload 2, 1), (.iaload, 1), (.aload 0, 1), (.getfield 1256, 3), (.iload 2, 1), (.iaload, 1)] (S' := (80, [(0, .inr (.inr (some (12, 0)))), (1, .inl x1), (2, .inl x2)], [.inl (rg M16 1356 0 (nx x2)), .inl (rg M16 1354 0 (nx x2)), .inl (rg M16 1353 0 (nx x2)), .inr (.inr (some (12, 0)))], zfR M16)) (b := zin x2 20 && (zin x2 20 && (zin x2 20 && true))) (by decide +kernel) rfl hg17 ?_
        obtain ⟨M18, hc18, h⟩ := zbv_inv h
        refine zcallV Hy.1 (as := [.inl (rg M16 1353 0 (nx x2)), .inl (rg M16 1354 0 (nx x2)), .inl (rg M16 1356 0 (nx x2))]) (st := []) (m12_lessen_met (zOK_G Hy.1) Hy.2.1 hc18) cw12_385 m12_lessen_in m12_lessen_se (by decide) (zhlv Hy.2.1 rfl) rfl (zroom Hy.2.2 ⟨by decide, by decide⟩) rfl (by decide +kernel) ⟨Nat.zero_le _, Nat.zero_le _⟩ ?_
        obtain ⟨hg19, h⟩ := zgd_inv h
        refine zblq Hy.1 Hy.2.1 [(.aload 0, 1), (.aload 0, 1), (.getfield 1254, 3), (.iload 2, 1), (.iaload, 1), (.aload 0, 1), (.getfield 1253, 3), (.iload 2, 1), (.iaload, 1), (.aload 0, 1), (.getfield 1255, 3), (.iload 2, 1), (.iaload, 1), (.ineg, 1)] (S' := (103, [(0, .inr (.inr (some (12, 0)))), (1, .inl x1), (2, .inl x2)], [.inl (-(rg M18 1355 0 (nx x2))), .inl (rg M18 1353 0 (nx x2)), .inl (rg M18 1354 0 (nx x2)), .inr (.inr (some (12, 0)))], zfR M18)) (b := zin x2 20 && (zin x2 20 && (zin x2 20 && true))) (by decide +kernel) rfl hg19 ?_
        obtain ⟨M20, hc20, h⟩ := zbv_inv h
        refine zcallV Hy.1 (as := [.inl (rg M18 1354 0 (nx x2)), .inl (rg M18 1353 0 (nx x2)), .inl (-(rg M18 1355 0 (nx x2)))]) (st := []) (m12_lessen_met (zOK_G Hy.1) Hy.2.1 hc20) cw12_385 m12_lessen_in m12_lessen_se (by decide) (zhlv Hy.2.1 rfl) rfl (zroom Hy.2.2 ⟨by decide, by decide⟩) rfl (by decide +kernel) ⟨Nat.zero_le _, Nat.zero_le _⟩ ?_
        refine zGo_keep [0, 1, 2] rfl ?_
        exact m12_canBe_106_ok Hy hE ih x1 x2 M20 h
def m12_canBe_31 (k2 : Int32 → Int32 → rM → Option (Int32 × rM)) (x1 : Int32) (x2 : Int32) (t1 : Int32) (t2 : Int32) (M : rM) : Option (Int32 × rM) := zgd (zin t1 100 && true) (k2 x1 (x2 + (1 : Int32)) (rs M 1357 0 (nx t1) t2))
theorem m12_canBe_31_ok {X : zX} {G : zG} (Hy : zHy X G q12_canBe zcR 1 23 (some .boolean)) {r : Int32} {M' : rM} (hE : zEnd X G (some (.inl r)) (zfR M')) {k2 : Int32 → Int32 → rM → Option (Int32 × rM)} (hk2 : ∀ (x1 : Int32) (x2 : Int32) (M : rM), k2 x1 x2 M = some (r, M') → zGo (X, q12_canBe, G) 0 0 (2, [(0, .inr (.inr (some (12, 0)))), (1, .inl x1), (2, .inl x2)], [], zfR M)) (x1 : Int32) (x2 : Int32) (t1 : Int32) (t2 : Int32) (M : rM) (h : m12_canBe_31 k2 x1 x2 t1 t2 M = some (r, M')) : zGo (X, q12_canBe, G) 0 0 (31, [(0, .inr (.inr (some (12, 0)))), (1, .inl x1), (2, .inl x2)], [.inl t2, .inl t1, .inr (.inr (some (1357, 0)))], zfR M) := by
  unfold m12_canBe_31 at h
  obtain ⟨hg24, h⟩ := zgd_inv h
  refine zblq Hy.1 Hy.2.1 [(.iastore, 1), (.iinc 2 1, 3), (.ldc 2, 3)] (S' := (2, [(0, .inr (.inr (some (12, 0)))), (1, .inl x1), (2, .inl (x2 + (1 : Int32)))], [], zfR (rs M 1357 0 (nx t1) t2))) (b := zin t1 100 && true) (by decide +kernel) rfl hg24 ?_
  refine zGo_keep [0, 1, 2] rfl ?_
  exact hk2 x1 (x2 + (1 : Int32)) (rs M 1357 0 (nx t1) t2) h
def m12_canBe_2 : Nat → Int32 → Int32 → rM → Option (Int32 × rM)
  | 0, _, _, _ => none
  | n + 1, x1, x2, M => (if (100 : Int32) ≤ x2 then m12_canBe_40 zfu x1 (0 : Int32) M else zgd (znz (10 : Int32) && (znz (10 : Int32) && true)) ((if (x2 / (10 : Int32)) = (zrem x2 (10 : Int32)) then m12_canBe_31 (m12_canBe_2 n) x1 x2 x2 (0 : Int32) M else m12_canBe_31 (m12_canBe_2 n) x1 x2 x2 (9999 : Int32) M)))
theorem m12_canBe_2_ok {X : zX} {G : zG} (Hy : zHy X G q12_canBe zcR 1 23 (some .boolean)) {r : Int32} {M' : rM} (hE : zEnd X G (some (.inl r)) (zfR M')) : ∀ (n : Nat) (x1 : Int32) (x2 : Int32) (M : rM), m12_canBe_2 n x1 x2 M = some (r, M') → zGo (X, q12_canBe, G) 0 0 (2, [(0, .inr (.inr (some (12, 0)))), (1, .inl x1), (2, .inl x2)], [], zfR M) := by
  intro n
  induction n with
  | zero => intro x1 x2 M h; cases h
  | succ n ih =>
    intro x1 x2 M h
    unfold m12_canBe_2 at h
    refine zblq Hy.1 Hy.2.1 [(.iload 2, 1), (.iconst 100, 2)] (S' := (5, [(0, .inr (.inr (some (12, 0)))), (1, .inl x1), (2, .inl x2)], [.inl (100 : Int32), .inl x2], zfR M)) (b := true) (by decide +kernel) rfl rfl ?_
    refine zic_ge Hy.1 (off := 33) (tgt := 38) (by decide +kernel) (by decide) (fun hb26 => ?_) (fun hb26 => ?_)
    · replace h := zite_t h hb26
      refine zblq Hy.1 Hy.2.1 [(.iconst 0, 1), (.istore 2, 1)] (S' := (40, [(0, .inr (.inr (some (12, 0)))), (1, .inl x1), (2, .inl (0 : Int32))], [], zfR M)) (b := true) (by decide +kernel) rfl rfl ?_
      refine zGo_keep [0, 1, 2] rfl ?_
      exact m12_canBe_40_ok Hy hE zfu x1 (0 : Int32) M h
    · replace h := zite_f h hb26
      obtain ⟨hg23, h⟩ := zgd_inv h
      refine zblq Hy.1 Hy.2.1 [(.aload 0, 1), (.getfield 1257, 3), (.iload 2, 1), (.iload 2, 1), (.iconst 10, 2), (.idiv, 1), (.iload 2, 1), (.iconst 10, 2), (.irem, 1)] (S' := (21, [(0, .inr (.inr (some (12, 0)))), (1, .inl x1), (2, .inl x2)], [.inl (zrem x2 (10 : Int32)), .inl (x2 / (10 : Int32)), .inl x2, .inr (.inr (some (1357, 0)))], zfR M)) (b := znz (10 : Int32) && (znz (10 : Int32) && true)) (by decide +kernel) rfl hg23 ?_
      refine zic_ne Hy.1 (off := 7) (tgt := 28) (by decide +kernel) (by decide) (fun hb25 => ?_) (fun hb25 => ?_)
      · replace h := zite_f h hb25
        refine zblq Hy.1 Hy.2.1 [(.iconst 9999, 3)] (S' := (31, [(0, .inr (.inr (some (12, 0)))), (1, .inl x1), (2, .inl x2)], [.inl (9999 : Int32), .inl x2, .inr (.inr (some (1357, 0)))], zfR M)) (b := true) (by decide +kernel) rfl rfl ?_
        refine zGo_keep [0, 1, 2] rfl ?_
        exact m12_canBe_31_ok Hy hE ih x1 x2 x2 (9999 : Int32) M h
      · replace h := zite_t h hb25
        refine zblq Hy.1 Hy.2.1 [(.iconst 0, 1), (.ldc 31, 3)] (S' := (31, [(0, .inr (.inr (some (12, 0)))), (1, .inl x1), (2, .inl x2)], [.inl (0 : Int32), .inl x2, .inr (.inr (some (1357, 0)))], zfR M)) (b := true) (by decide +kernel) rfl rfl ?_
        refine zGo_keep [0, 1, 2] rfl ?_
        exact m12_canBe_31_ok Hy hE ih x1 x2 x2 (0 : Int32) M h
def m12_canBe (x1 : Int32) (M : rM) : Option (Int32 × rM) := m12_canBe_2 zfu x1 (0 : Int32) M
theorem m12_canBe_ok {X : zX} {G : zG} (Hy : zHy X G q12_canBe zcR 1 23 (some .boolean)) {r : Int32} {M' : rM} (hE : zEnd X G (some (.inl r)) (zfR M')) (x1 : Int32) (M : rM) (h : m12_canBe x1 M = some (r, M')) : zGo (X, q12_canBe, G) 0 0 (0, [(0, .inr (.inr (some (12, 0)))), (1, .inl x1)], [], zfR M) := by
  unfold m12_canBe at h
  refine zblq Hy.1 Hy.2.1 [(.iconst 0, 1), (.istore 2, 1)] (S' := (2, [(0, .inr (.inr (some (12, 0)))), (1, .inl x1), (2, .inl (0 : Int32))], [], zfR M)) (b := true) (by decide +kernel) rfl rfl ?_
  refine zGo_keep [0, 1, 2] rfl ?_
  exact m12_canBe_2_ok Hy hE zfu x1 (0 : Int32) M h
theorem m12_canBe_met {l : Launch} {G : zG} (hG : zGok G) (hcn : zgcn G = zcR) {x1 : Int32} {M : rM} {r : Int32} {M' : rM} (h : m12_canBe x1 M = some (r, M')) : zMet l G yX12_canBe cX12_canBe 5 (some .boolean) 1 23 [.inr (.inr (some (12, 0))), .inl x1] (zfR M) (some (.inl r)) (zfR M') :=
  zMet_of hG tbX12_ok rfl (by decide +kernel) (Nat.le_of_ble_eq_true rfl) (fun X _ Z hA hE => m12_canBe_ok ⟨Z, hcn, hA⟩ hE x1 M h)
abbrev q12_hour : ByteArray × Nat × String × zT := (cX12_hour, 9, RX12, tbX12)
def m12_hour_26  (M : rM) : Option (Int32 × rM) := some ((-2147483648 : Int32), M)
theorem m12_hour_26_ok {X : zX} {G : zG} (Hy : zHy X G q12_hour zcR 2 47 (some .int)) {r : Int32} {M' : rM} (hE : zEnd X G (some (.inl r)) (zfR M'))  (M : rM) (h : m12_hour_26 M = some (r, M')) : zGo (X, q12_hour, G) 0 0 (26, [], [], zfR M) := by
  unfold m12_hour_26 at h
  refine zblq Hy.1 Hy.2.1 [(.iconst (-2147483648), 3)] (S' := (29, [], [.inl (-2147483648 : Int32)], zfR M)) (b := true) (by decide +kernel) rfl rfl ?_
  cases h
  exact zret_i Hy.1 Hy.2.2 hE (by decide +kernel)
def m12_hour_159 (k38 : Int32 → Int32 → Int32 → Int32 → Int32 → rM → Option (Int32 × rM)) (x1 : Int32) (x2 : Int32) (x3 : Int32) (x4 : Int32) (x5 : Int32) (M : rM) : Option (Int32 × rM) := k38 x1 x2 x3 x4 (x5 + (2 : Int32)) M
theorem m12_hour_159_ok {X : zX} {G : zG} (Hy : zHy X G q12_hour zcR 2 47 (some .int)) {r : Int32} {M' : rM} (hE : zEnd X G (some (.inl r)) (zfR M')) {k38 : Int32 → Int32 → Int32 → Int32 → Int32 → rM → Option (Int32 × rM)} (hk38 : ∀ (x1 : Int32) (x2 : Int32) (x3 : Int32) (x4 : Int32) (x5 : Int32) (M : rM), k38 x1 x2 x3 x4 x5 M = some (r, M') → zGo (X, q12_hour, G) 0 0 (38, [(0, .inr (.inr (some (12, 0)))), (1, .inl x1), (2, .inl x2), (3, .inl x3), (4, .inl x4), (5, .inl x5)], [], zfR M)) (x1 : Int32) (x2 : Int32) (x3 : Int32) (x4 : Int32) (x5 : Int32) (M : rM) (h : m12_hour_159 k38 x1 x2 x3 x4 x5 M = some (r, M')) : zGo (X, q12_hour, G) 0 0 (159, [(0, .inr (.inr (some (12, 0)))), (1, .inl x1), (2, .inl x2), (3, .inl x3), (4, .inl x4), (5, .inl x5)], [], zfR M) := by
  unfold m12_hour_159 at h
  refine zblq Hy.1 Hy.2.1 [(.iinc 5 2, 3), (.ldc 38, 3)] (S' := (38, [(0, .inr (.inr (some (12, 0)))), (1, .inl x1), (2, .inl x2), (3, .inl x3), (4, .inl x4), (5, .inl (x5 + (2 : Int32)))], [], zfR M)) (b := true) (by decide +kernel) rfl rfl ?_
  refine zGo_keep [0, 1, 2, 3, 4, 5] rfl ?_
  exact hk38 x1 x2 x3 x4 (x5 + (2 : Int32)) M h
def m12_hour_157 (k38 : Int32 → Int32 → Int32 → Int32 → Int32 → rM → Option (Int32 × rM)) (x1 : Int32) (x2 : Int32) (x3 : Int32) (x5 : Int32) (t0 : Int32) (M : rM) : Option (Int32 × rM) := m12_hour_159 k38 x1 x2 x3 t0 x5 M
theorem m12_hour_157_ok {X : zX} {G : zG} (Hy : zHy X G q12_hour zcR 2 47 (some .int)) {r : Int32} {M' : rM} (hE : zEnd X G (some (.inl r)) (zfR M')) {k38 : Int32 → Int32 → Int32 → Int32 → Int32 → rM → Option (Int32 × rM)} (hk38 : ∀ (x1 : Int32) (x2 : Int32) (x3 : Int32) (x4 : Int32) (x5 : Int32) (M : rM), k38 x1 x2 x3 x4 x5 M = some (r, M') → zGo (X, q12_hour, G) 0 0 (38, [(0, .inr (.inr (some (12, 0)))), (1, .inl x1), (2, .inl x2), (3, .inl x3), (4, .inl x4), (5, .inl x5)], [], zfR M)) (x1 : Int32) (x2 : Int32) (x3 : Int32) (x5 : Int32) (t0 : Int32) (M : rM) (h : m12_hour_157 k38 x1 x2 x3 x5 t0 M = some (r, M')) : zGo (X, q12_hour, G) 0 0 (157, [(0, .inr (.inr (some (12, 0)))), (1, .inl x1), (2, .inl x2), (3, .inl x3), (5, .inl x5)], [.inl t0], zfR M) := by
  unfold m12_hour_157 at h
  refine zblq Hy.1 Hy.2.1 [(.istore 4, 2)] (S' := (159, [(0, .inr (.inr (some (12, 0)))), (1, .inl x1), (2, .inl x2), (3, .inl x3), (4, .inl t0), (5, .inl x5)], [], zfR M)) (b := true) (by decide +kernel) rfl rfl ?_
  refine zGo_keep [0, 1, 2, 3, 4, 5] rfl ?_
  exact m12_hour_159_ok Hy hE hk38 x1 x2 x3 t0 x5 M h
def m12_hour_119 (k38 : Int32 → Int32 → Int32 → Int32 → Int32 → rM → Option (Int32 × rM)) (x1 : Int32) (x2 : Int32) (x3 : Int32) (x4 : Int32) (x5 : Int32) (t0 : Int32) (M : rM) : Option (Int32 × rM) := (if x4 = (-2147483648 : Int32) then m12_hour_157 k38 x1 x2 x3 x5 t0 M else (if x3 = 0 then (if x4 ≤ t0 then m12_hour_157 k38 x1 x2 x3 x5 x4 M else m12_hour_157 k38 x1 x2 x3 x5 t0 M) else (if t0 ≤ x4 then m12_hour_157 k38 x1 x2 x3 x5 x4 M else m12_hour_157 k38 x1 x2 x3 x5 t0 M)))
theorem m12_hour_119_ok {X : zX} {G : zG} (Hy : zHy X G q12_hour zcR 2 47 (some .int)) {r : Int32} {M' : rM} (hE : zEnd X G (some (.inl r)) (zfR M')) {k38 : Int32 → Int32 → Int32 → Int32 → Int32 → rM → Option (Int32 × rM)} (hk38 : ∀ (x1 : Int32) (x2 : Int32) (x3 : Int32) (x4 : Int32) (x5 : Int32) (M : rM), k38 x1 x2 x3 x4 x5 M = some (r, M') → zGo (X, q12_hour, G) 0 0 (38, [(0, .inr (.inr (some (12, 0)))), (1, .inl x1), (2, .inl x2), (3, .inl x3), (4, .inl x4), (5, .inl x5)], [], zfR M)) (x1 : Int32) (x2 : Int32) (x3 : Int32) (x4 : Int32) (x5 : Int32) (t0 : Int32) (M : rM) (h : m12_hour_119 k38 x1 x2 x3 x4 x5 t0 M = some (r, M')) : zGo (X, q12_hour, G) 0 0 (119, [(0, .inr (.inr (some (12, 0)))), (1, .inl x1), (2, .inl x2), (3, .inl x3), (4, .inl x4), (5, .inl x5)], [.inl t0], zfR M) := by
  unfold m12_hour_119 at h
  refine zblq Hy.1 Hy.2.1 [(.istore 8, 2), (.iload 4, 2), (.iconst (-2147483648), 3)] (S' := (126, [(0, .inr (.inr (some (12, 0)))), (1, .inl x1), (2, .inl x2), (3, .inl x3), (4, .inl x4), (5, .inl x5), (8, .inl t0)], [.inl (-2147483648 : Int32), .inl x4], zfR M)) (b := true) (by decide +kernel) rfl rfl ?_
  refine zic_eq Hy.1 (off := 24) (tgt := 150) (by decide +kernel) (by decide) (fun hb11 => ?_) (fun hb11 => ?_)
  · replace h := zite_t h hb11
    refine zblq Hy.1 Hy.2.1 [(.iload 8, 2), (.ldc 157, 3)] (S' := (157, [(0, .inr (.inr (some (12, 0)))), (1, .inl x1), (2, .inl x2), (3, .inl x3), (4, .inl x4), (5, .inl x5), (8, .inl t0)], [.inl t0], zfR M)) (b := true) (by decide +kernel) rfl rfl ?_
    refine zGo_keep [0, 1, 2, 3, 5] rfl ?_
    exact m12_hour_157_ok Hy hE hk38 x1 x2 x3 x5 t0 M h
  · replace h := zite_f h hb11
    refine zblq Hy.1 Hy.2.1 [(.iload 3, 1)] (S' := (130, [(0, .inr (.inr (some (12, 0)))), (1, .inl x1), (2, .inl x2), (3, .inl x3), (4, .inl x4), (5, .inl x5), (8, .inl t0)], [.inl x3], zfR M)) (b := true) (by decide +kernel) rfl rfl ?_
    refine zif_ne Hy.1 (off := 13) (tgt := 143) (by decide +kernel) (by decide) (fun hb10 => ?_) (fun hb10 => ?_)
    · replace h := zite_f h hb10
      refine zblq Hy.1 Hy.2.1 [(.iload 8, 2), (.iload 4, 2)] (S' := (147, [(0, .inr (.inr (some (12, 0)))), (1, .inl x1), (2, .inl x2), (3, .inl x3), (4, .inl x4), (5, .inl x5), (8, .inl t0)], [.inl x4, .inl t0], zfR M)) (b := true) (by decide +kernel) rfl rfl ?_
      refine zic_le Hy.1 (off := 8) (tgt := 155) (by decide +kernel) (by decide) (fun hb8 => ?_) (fun hb8 => ?_)
      · replace h := zite_t h hb8
        refine zblq Hy.1 Hy.2.1 [(.iload 4, 2)] (S' := (157, [(0, .inr (.inr (some (12, 0)))), (1, .inl x1), (2, .inl x2), (3, .inl x3), (4, .inl x4), (5, .inl x5), (8, .inl t0)], [.inl x4], zfR M)) (b := true) (by decide +kernel) rfl rfl ?_
        refine zGo_keep [0, 1, 2, 3, 5] rfl ?_
        exact m12_hour_157_ok Hy hE hk38 x1 x2 x3 x5 x4 M h
      · replace h := zite_f h hb8
        refine zblq Hy.1 Hy.2.1 [(.iload 8, 2), (.ldc 157, 3)] (S' := (157, [(0, .inr (.inr (some (12, 0)))), (1, .inl x1), (2, .inl x2), (3, .inl x3), (4, .inl x4), (5, .inl x5), (8, .inl t0)], [.inl t0], zfR M)) (b := true) (by decide +kernel) rfl rfl ?_
        refine zGo_keep [0, 1, 2, 3, 5] rfl ?_
        exact m12_hour_157_ok Hy hE hk38 x1 x2 x3 x5 t0 M h
    · replace h := zite_t h hb10
      refine zblq Hy.1 Hy.2.1 [(.iload 8, 2), (.iload 4, 2)] (S' := (137, [(0, .inr (.inr (some (12, 0)))), (1, .inl x1), (2, .inl x2), (3, .inl x3), (4, .inl x4), (5, .inl x5), (8, .inl t0)], [.inl x4, .inl t0], zfR M)) (b := true) (by decide +kernel) rfl rfl ?_
      refine zic_ge Hy.1 (off := 18) (tgt := 155) (by decide +kernel) (by decide) (fun hb9 => ?_) (fun hb9 => ?_)
      · replace h := zite_t h hb9
        refine zblq Hy.1 Hy.2.1 [(.iload 4, 2)] (S' := (157, [(0, .inr (.inr (some (12, 0)))), (1, .inl x1), (2, .inl x2), (3, .inl x3), (4, .inl x4), (5, .inl x5), (8, .inl t0)], [.inl x4], zfR M)) (b := true) (by decide +kernel) rfl rfl ?_
        refine zGo_keep [0, 1, 2, 3, 5] rfl ?_
        exact m12_hour_157_ok Hy hE hk38 x1 x2 x3 x5 x4 M h
      · replace h := zite_f h hb9
        refine zblq Hy.1 Hy.2.1 [(.ldc 150, 3), (.iload 8, 2), (.ldc 157, 3)] (S' := (157, [(0, .inr (.inr (some (12, 0)))), (1, .inl x1), (2, .inl x2), (3, .inl x3), (4, .inl x4), (5, .inl x5), (8, .inl t0)], [.inl t0], zfR M)) (b := true) (by decide +kernel) rfl rfl ?_
        refine zGo_keep [0, 1, 2, 3, 5] rfl ?_
        exact m12_hour_157_ok Hy hE hk38 x1 x2 x3 x5 t0 M h
def m12_hour_106 (k38 : Int32 → Int32 → Int32 → Int32 → Int32 → rM → Option (Int32 × rM)) (x1 : Int32) (x2 : Int32) (x3 : Int32) (x4 : Int32) (x5 : Int32) (x6 : Int32) (t0 : Int32) (M : rM) : Option (Int32 × rM) := (if x3 = 0 then m12_hour_119 k38 x1 x2 x3 x4 x5 t0 M else m12_hour_119 k38 x1 x2 x3 x4 x5 x6 M)
theorem m12_hour_106_ok {X : zX} {G : zG} (Hy : zHy X G q12_hour zcR 2 47 (some .int)) {r : Int32} {M' : rM} (hE : zEnd X G (some (.inl r)) (zfR M')) {k38 : Int32 → Int32 → Int32 → Int32 → Int32 → rM → Option (Int32 × rM)} (hk38 : ∀ (x1 : Int32) (x2 : Int32) (x3 : Int32) (x4 : Int32) (x5 : Int32) (M : rM), k38 x1 x2 x3 x4 x5 M = some (r, M') → zGo (X, q12_hour, G) 0 0 (38, [(0, .inr (.inr (some (12, 0)))), (1, .inl x1), (2, .inl x2), (3, .inl x3), (4, .inl x4), (5, .inl x5)], [], zfR M)) (x1 : Int32) (x2 : Int32) (x3 : Int32) (x4 : Int32) (x5 : Int32) (x6 : Int32) (t0 : Int32) (M : rM) (h : m12_hour_106 k38 x1 x2 x3 x4 x5 x6 t0 M = some (r, M')) : zGo (X, q12_hour, G) 0 0 (106, [(0, .inr (.inr (some (12, 0)))), (1, .inl x1), (2, .inl x2), (3, .inl x3), (4, .inl x4), (5, .inl x5), (6, .inl x6)], [.inl t0], zfR M) := by
  unfold m12_hour_106 at h
  refine zblq Hy.1 Hy.2.1 [(.istore 7, 2), (.iload 3, 1)] (S' := (109, [(0, .inr (.inr (some (12, 0)))), (1, .inl x1), (2, .inl x2), (3, .inl x3), (4, .inl x4), (5, .inl x5), (6, .inl x6), (7, .inl t0)], [.inl x3], zfR M)) (b := true) (by decide +kernel) rfl rfl ?_
  refine zif_ne Hy.1 (off := 8) (tgt := 117) (by decide +kernel) (by decide) (fun hb12 => ?_) (fun hb12 => ?_)
  · replace h := zite_f h hb12
    refine zblq Hy.1 Hy.2.1 [(.iload 6, 2)] (S' := (119, [(0, .inr (.inr (some (12, 0)))), (1, .inl x1), (2, .inl x2), (3, .inl x3), (4, .inl x4), (5, .inl x5), (6, .inl x6), (7, .inl t0)], [.inl x6], zfR M)) (b := true) (by decide +kernel) rfl rfl ?_
    refine zGo_keep [0, 1, 2, 3, 4, 5] rfl ?_
    exact m12_hour_119_ok Hy hE hk38 x1 x2 x3 x4 x5 x6 M h
  · replace h := zite_t h hb12
    refine zblq Hy.1 Hy.2.1 [(.iload 7, 2), (.ldc 119, 3)] (S' := (119, [(0, .inr (.inr (some (12, 0)))), (1, .inl x1), (2, .inl x2), (3, .inl x3), (4, .inl x4), (5, .inl x5), (6, .inl x6), (7, .inl t0)], [.inl t0], zfR M)) (b := true) (by decide +kernel) rfl rfl ?_
    refine zGo_keep [0, 1, 2, 3, 4, 5] rfl ?_
    exact m12_hour_119_ok Hy hE hk38 x1 x2 x3 x4 x5 t0 M h
def m12_hour_38 : Nat → Int32 → Int32 → Int32 → Int32 → Int32 → rM → Option (Int32 × rM)
  | 0, _, _, _, _, _, _ => none
  | n + 1, x1, x2, x3, x4, x5, M => (if (zshl (1 : Int32) (rg M 12 0 0)) ≤ x5 then some (x4, M) else zbd (m12_bits x5 M) (fun r4 M4 => (if x2 < r4 then m12_hour_159 (m12_hour_38 n) x1 x2 x3 x4 x5 M4 else zbd (m12_canBe x5 M4) (fun r5 M5 => (if r5 = 0 then m12_hour_159 (m12_hour_38 n) x1 x2 x3 x4 x5 M5 else zgd (zin x1 100 && (zin ((10 : Int32) * x1) 100 && true)) ((if (rg M5 1357 0 (nx ((10 : Int32) * x1))) = (9999 : Int32) then m12_hour_106 (m12_hour_38 n) x1 x2 x3 x4 x5 (rg M5 1357 0 (nx x1)) (-9999 : Int32) M5 else zgd (zin ((10 : Int32) * x1) 100 && true) (m12_hour_106 (m12_hour_38 n) x1 x2 x3 x4 x5 (rg M5 1357 0 (nx x1)) (-(rg M5 1357 0 (nx ((10 : Int32) * x1)))) M5))))))))
theorem m12_hour_38_ok {X : zX} {G : zG} (Hy : zHy X G q12_hour zcR 2 47 (some .int)) {r : Int32} {M' : rM} (hE : zEnd X G (some (.inl r)) (zfR M')) : ∀ (n : Nat) (x1 : Int32) (x2 : Int32) (x3 : Int32) (x4 : Int32) (x5 : Int32) (M : rM), m12_hour_38 n x1 x2 x3 x4 x5 M = some (r, M') → zGo (X, q12_hour, G) 0 0 (38, [(0, .inr (.inr (some (12, 0)))), (1, .inl x1), (2, .inl x2), (3, .inl x3), (4, .inl x4), (5, .inl x5)], [], zfR M) := by
  intro n
  induction n with
  | zero => intro x1 x2 x3 x4 x5 M h; cases h
  | succ n ih =>
    intro x1 x2 x3 x4 x5 M h
    unfold m12_hour_38 at h
    refine zblq Hy.1 Hy.2.1 [(.iload 5, 2), (.iconst 1, 1), (.aload 0, 1), (.multianewarray 12 0, 3), (.ishl, 1)] (S' := (46, [(0, .inr (.inr (some (12, 0)))), (1, .inl x1), (2, .inl x2), (3, .inl x3), (4, .inl x4), (5, .inl x5)], [.inl (zshl (1 : Int32) (rg M 12 0 0)), .inl x5], zfR M)) (b := true) (by decide +kernel) rfl rfl ?_
    refine zic_ge Hy.1 (off := 119) (tgt := 165) (by decide +kernel) (by decide) (fun hb16 => ?_) (fun hb16 => ?_)
    · replace h := zite_t h hb16
      refine zblq Hy.1 Hy.2.1 [(.iload 4, 2)] (S' := (167, [(0, .inr (.inr (some (12, 0)))), (1, .inl x1), (2, .inl x2), (3, .inl x3), (4, .inl x4), (5, .inl x5)], [.inl x4], zfR M)) (b := true) (by decide +kernel) rfl rfl ?_
      cases h
      exact zret_i Hy.1 Hy.2.2 hE (by decide +kernel)
    · replace h := zite_f h hb16
      refine zblq Hy.1 Hy.2.1 [(.iload 5, 2)] (S' := (51, [(0, .inr (.inr (some (12, 0)))), (1, .inl x1), (2, .inl x2), (3, .inl x3), (4, .inl x4), (5, .inl x5)], [.inl x5], zfR M)) (b := true) (by decide +kernel) rfl rfl ?_
      obtain ⟨r4, M4, hc4, h⟩ := zbd_inv h
      refine zcallS Hy.1 (as := [.inl x5]) (st := []) (m12_bits_met (zOK_G Hy.1) Hy.2.1 hc4) cw12_390 m12_bits_in rfl (zroom Hy.2.2 ⟨by decide, by decide⟩) rfl (by decide +kernel) ⟨Nat.zero_le _, Nat.zero_le _⟩ ?_
      refine zblq Hy.1 Hy.2.1 [(.iload 2, 1)] (S' := (55, [(0, .inr (.inr (some (12, 0)))), (1, .inl x1), (2, .inl x2), (3, .inl x3), (4, .inl x4), (5, .inl x5)], [.inl x2, .inl r4], zfR M4)) (b := true) (by decide +kernel) rfl rfl ?_
      refine zic_gt Hy.1 (off := 104) (tgt := 159) (by decide +kernel) (by decide) (fun hb15 => ?_) (fun hb15 => ?_)
      · replace h := zite_t h hb15
        refine zGo_keep [0, 1, 2, 3, 4, 5] rfl ?_
        exact m12_hour_159_ok Hy hE ih x1 x2 x3 x4 x5 M4 h
      · replace h := zite_f h hb15
        refine zblq Hy.1 Hy.2.1 [(.aload 0, 1), (.iload 5, 2)] (S' := (61, [(0, .inr (.inr (some (12, 0)))), (1, .inl x1), (2, .inl x2), (3, .inl x3), (4, .inl x4), (5, .inl x5)], [.inl x5, .inr (.inr (some (12, 0)))], zfR M4)) (b := true) (by decide +kernel) rfl rfl ?_
        obtain ⟨r5, M5, hc5, h⟩ := zbd_inv h
        refine zcallV Hy.1 (as := [.inl x5]) (st := []) (m12_canBe_met (zOK_G Hy.1) Hy.2.1 hc5) cw12_393 m12_canBe_in m12_canBe_se (by decide) (zhlv Hy.2.1 rfl) rfl (zroom Hy.2.2 ⟨by decide, by decide⟩) rfl (by decide +kernel) ⟨Nat.zero_le _, Nat.zero_le _⟩ ?_
        refine zif_eq Hy.1 (off := 95) (tgt := 159) (by decide +kernel) (by decide) (fun hb14 => ?_) (fun hb14 => ?_)
        · replace h := zite_t h hb14
          refine zGo_keep [0, 1, 2, 3, 4, 5] rfl ?_
          exact m12_hour_159_ok Hy hE ih x1 x2 x3 x4 x5 M5 h
        · replace h := zite_f h hb14
          obtain ⟨hg6, h⟩ := zgd_inv h
          refine zblq Hy.1 Hy.2.1 [(.aload 0, 1), (.getfield 1257, 3), (.iload 1, 1), (.iaload, 1), (.istore 6, 2), (.aload 0, 1), (.getfield 1257, 3), (.iconst 10, 2), (.iload 1, 1), (.imul, 1), (.iaload, 1), (.iconst 9999, 3)] (S' := (87, [(0, .inr (.inr (some (12, 0)))), (1, .inl x1), (2, .inl x2), (3, .inl x3), (4, .inl x4), (5, .inl x5), (6, .inl (rg M5 1357 0 (nx x1)))], [.inl (9999 : Int32), .inl (rg M5 1357 0 (nx ((10 : Int32) * x1)))], zfR M5)) (b := zin x1 100 && (zin ((10 : Int32) * x1) 100 && true)) (by decide +kernel) rfl hg6 ?_
          refine zic_ne Hy.1 (off := 9) (tgt := 96) (by decide +kernel) (by decide) (fun hb13 => ?_) (fun hb13 => ?_)
          · replace h := zite_f h hb13
            obtain ⟨hg7, h⟩ := zgd_inv h
            refine zblq Hy.1 Hy.2.1 [(.aload 0, 1), (.getfield 1257, 3), (.iconst 10, 2), (.iload 1, 1), (.imul, 1), (.iaload, 1), (.ineg, 1)] (S' := (106, [(0, .inr (.inr (some (12, 0)))), (1, .inl x1), (2, .inl x2), (3, .inl x3), (4, .inl x4), (5, .inl x5), (6, .inl (rg M5 1357 0 (nx x1)))], [.inl (-(rg M5 1357 0 (nx ((10 : Int32) * x1))))], zfR M5)) (b := zin ((10 : Int32) * x1) 100 && true) (by decide +kernel) rfl hg7 ?_
            refine zGo_keep [0, 1, 2, 3, 4, 5, 6] rfl ?_
            exact m12_hour_106_ok Hy hE ih x1 x2 x3 x4 x5 (rg M5 1357 0 (nx x1)) (-(rg M5 1357 0 (nx ((10 : Int32) * x1)))) M5 h
          · replace h := zite_t h hb13
            refine zblq Hy.1 Hy.2.1 [(.iconst (-9999), 3), (.ldc 106, 3)] (S' := (106, [(0, .inr (.inr (some (12, 0)))), (1, .inl x1), (2, .inl x2), (3, .inl x3), (4, .inl x4), (5, .inl x5), (6, .inl (rg M5 1357 0 (nx x1)))], [.inl (-9999 : Int32)], zfR M5)) (b := true) (by decide +kernel) rfl rfl ?_
            refine zGo_keep [0, 1, 2, 3, 4, 5, 6] rfl ?_
            exact m12_hour_106_ok Hy hE ih x1 x2 x3 x4 x5 (rg M5 1357 0 (nx x1)) (-9999 : Int32) M5 h
def m12_hour (x1 : Int32) (x2 : Int32) (x3 : Int32) (M : rM) : Option (Int32 × rM) := zbd (m12_isBox x1 M) (fun r1 M1 => (if r1 = 0 then m12_hour_26 M1 else zbd (m12_in x2 (0 : Int32) (2 : Int32) M1) (fun r2 M2 => (if r2 = 0 then m12_hour_26 M2 else zbd (m12_in x3 (0 : Int32) (1 : Int32) M2) (fun r3 M3 => (if r3 = 0 then m12_hour_26 M3 else m12_hour_38 zfu x1 x2 x3 (-2147483648 : Int32) (0 : Int32) M3))))))
theorem m12_hour_ok {X : zX} {G : zG} (Hy : zHy X G q12_hour zcR 2 47 (some .int)) {r : Int32} {M' : rM} (hE : zEnd X G (some (.inl r)) (zfR M')) (x1 : Int32) (x2 : Int32) (x3 : Int32) (M : rM) (h : m12_hour x1 x2 x3 M = some (r, M')) : zGo (X, q12_hour, G) 0 0 (0, [(0, .inr (.inr (some (12, 0)))), (1, .inl x1), (2, .inl x2), (3, .inl x3)], [], zfR M) := by
  unfold m12_hour at h
  refine zblq Hy.1 Hy.2.1 [(.aload 0, 1), (.iload 1, 1)] (S' := (2, [(0, .inr (.inr (some (12, 0)))), (1, .inl x1), (2, .inl x2), (3, .inl x3)], [.inl x1, .inr (.inr (some (12, 0)))], zfR M)) (b := true) (by decide +kernel) rfl rfl ?_
  obtain ⟨r1, M1, hc1, h⟩ := zbd_inv h
  refine zcallV Hy.1 (as := [.inl x1]) (st := []) (m12_isBox_met (zOK_G Hy.1) Hy.2.1 hc1) cw12_175 m12_isBox_in m12_isBox_se (by decide) (zhlv Hy.2.1 rfl) rfl (zroom Hy.2.2 ⟨by decide, by decide⟩) rfl (by decide +kernel) ⟨Nat.zero_le _, Nat.zero_le _⟩ ?_
  refine zif_eq Hy.1 (off := 21) (tgt := 26) (by decide +kernel) (by decide) (fun hb19 => ?_) (fun hb19 => ?_)
  · replace h := zite_t h hb19
    refine zGo_keep [] rfl ?_
    exact m12_hour_26_ok Hy hE M1 h
  · replace h := zite_f h hb19
    refine zblq Hy.1 Hy.2.1 [(.iload 2, 1), (.iconst 0, 1), (.iconst 2, 1)] (S' := (11, [(0, .inr (.inr (some (12, 0)))), (1, .inl x1), (2, .inl x2), (3, .inl x3)], [.inl (2 : Int32), .inl (0 : Int32), .inl x2], zfR M1)) (b := true) (by decide +kernel) rfl rfl ?_
    obtain ⟨r2, M2, hc2, h⟩ := zbd_inv h
    refine zcallS Hy.1 (as := [.inl x2, .inl (0 : Int32), .inl (2 : Int32)]) (st := []) (m12_in_met (zOK_G Hy.1) Hy.2.1 hc2) cw12_171 m12_in_in rfl (zroom Hy.2.2 ⟨by decide, by decide⟩) rfl (by decide +kernel) ⟨Nat.zero_le _, Nat.zero_le _⟩ ?_
    refine zif_eq Hy.1 (off := 12) (tgt := 26) (by decide +kernel) (by decide) (fun hb18 => ?_) (fun hb18 => ?_)
    · replace h := zite_t h hb18
      refine zGo_keep [] rfl ?_
      exact m12_hour_26_ok Hy hE M2 h
    · replace h := zite_f h hb18
      refine zblq Hy.1 Hy.2.1 [(.iload 3, 1), (.iconst 0, 1), (.iconst 1, 1)] (S' := (20, [(0, .inr (.inr (some (12, 0)))), (1, .inl x1), (2, .inl x2), (3, .inl x3)], [.inl (1 : Int32), .inl (0 : Int32), .inl x3], zfR M2)) (b := true) (by decide +kernel) rfl rfl ?_
      obtain ⟨r3, M3, hc3, h⟩ := zbd_inv h
      refine zcallS Hy.1 (as := [.inl x3, .inl (0 : Int32), .inl (1 : Int32)]) (st := []) (m12_in_met (zOK_G Hy.1) Hy.2.1 hc3) cw12_171 m12_in_in rfl (zroom Hy.2.2 ⟨by decide, by decide⟩) rfl (by decide +kernel) ⟨Nat.zero_le _, Nat.zero_le _⟩ ?_
      refine zif_ne Hy.1 (off := 7) (tgt := 30) (by decide +kernel) (by decide) (fun hb17 => ?_) (fun hb17 => ?_)
      · replace h := zite_f h hb17
        refine zblq Hy.1 Hy.2.1 [(.iconst (-2147483648), 3), (.istore 4, 2), (.iconst 0, 1), (.istore 5, 2)] (S' := (38, [(0, .inr (.inr (some (12, 0)))), (1, .inl x1), (2, .inl x2), (3, .inl x3), (4, .inl (-2147483648 : Int32)), (5, .inl (0 : Int32))], [], zfR M3)) (b := true) (by decide +kernel) rfl rfl ?_
        refine zGo_keep [0, 1, 2, 3, 4, 5] rfl ?_
        exact m12_hour_38_ok Hy hE zfu x1 x2 x3 (-2147483648 : Int32) (0 : Int32) M3 h
      · replace h := zite_t h hb17
        refine zGo_keep [] rfl ?_
        exact m12_hour_26_ok Hy hE M3 h
theorem m12_hour_met {l : Launch} {G : zG} (hG : zGok G) (hcn : zgcn G = zcR) {x1 : Int32} {x2 : Int32} {x3 : Int32} {M : rM} {r : Int32} {M' : rM} (h : m12_hour x1 x2 x3 M = some (r, M')) : zMet l G yX12_hour cX12_hour 9 (some .int) 2 47 [.inr (.inr (some (12, 0))), .inl x1, .inl x2, .inl x3] (zfR M) (some (.inl r)) (zfR M') :=
  zMet_of hG tbX12_ok rfl (by decide +kernel) (Nat.le_of_ble_eq_true rfl) (fun X _ Z hA hE => m12_hour_ok ⟨Z, hcn, hA⟩ hE x1 x2 x3 M h)
