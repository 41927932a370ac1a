abbrev q12_place : ByteArray × Nat × String × zT := (cX12_place, 4, RX12, tbX12)
def m12_place (x1 : Int32) (x2 : Int32) (M : rM) : Option (Int32 × rM) := zbd (m12_isBox x1 M) (fun r1 M1 => (if r1 = 0 then some ((-2 : Int32), M1) else zbd (m12_in x2 (0 : Int32) (36 : Int32) M1) (fun r2 M2 => (if r2 = 0 then some ((-3 : Int32), M2) else zgd (zin x1 10 && (zin x1 10 && true)) (some (rg M2 1358 0 (nx x1), rs M2 1358 0 (nx x1) x2))))))
theorem m12_place_ok {X : zX} {G : zG} (Hy : zHy X G q12_place zcR 2 43 (some .int)) {r : Int32} {M' : rM} (hE : zEnd X G (some (.inl r)) (zfR M')) (x1 : Int32) (x2 : Int32) (M : rM) (h : m12_place x1 x2 M = some (r, M')) : zGo (X, q12_place, G) 0 0 (0, [(0, .inr (.inr (some (12, 0)))), (1, .inl x1), (2, .inl x2)], [], zfR M) := by
  unfold m12_place at h
  refine zblq Hy.1 Hy.2.1 [(.aload 0, 1), (.iload 1, 1)] (S' := (2, [(0, .inr (.inr (some (12, 0)))), (1, .inl x1), (2, .inl x2)], [.inl x1, .inr (.inr (some (12, 0)))], zfR M)) (b := true) (by decide +kernel) rfl rfl ?_
  obtain ⟨r1, M1, hc1, h⟩ := zbd_inv h
  refine zcallV Hy.1 (as := [.inl x1]) (st := []) (m12_isBox_met (zOK_G Hy.1) Hy.2.1 hc1) cw12_175 m12_isBox_in m12_isBox_se (by decide) (zhlv Hy.2.1 rfl) rfl (zroom Hy.2.2 ⟨by decide, by decide⟩) rfl (by decide +kernel) ⟨Nat.zero_le _, Nat.zero_le _⟩ ?_
  refine zif_ne Hy.1 (off := 6) (tgt := 11) (by decide +kernel) (by decide) (fun hb5 => ?_) (fun hb5 => ?_)
  · replace h := zite_f h hb5
    refine zblq Hy.1 Hy.2.1 [(.iload 2, 1), (.iconst 0, 1), (.iconst 36, 2)] (S' := (15, [(0, .inr (.inr (some (12, 0)))), (1, .inl x1), (2, .inl x2)], [.inl (36 : Int32), .inl (0 : Int32), .inl x2], zfR M1)) (b := true) (by decide +kernel) rfl rfl ?_
    obtain ⟨r2, M2, hc2, h⟩ := zbd_inv h
    refine zcallS Hy.1 (as := [.inl x2, .inl (0 : Int32), .inl (36 : Int32)]) (st := []) (m12_in_met (zOK_G Hy.1) Hy.2.1 hc2) cw12_171 m12_in_in rfl (zroom Hy.2.2 ⟨by decide, by decide⟩) rfl (by decide +kernel) ⟨Nat.zero_le _, Nat.zero_le _⟩ ?_
    refine zif_ne Hy.1 (off := 6) (tgt := 24) (by decide +kernel) (by decide) (fun hb4 => ?_) (fun hb4 => ?_)
    · replace h := zite_f h hb4
      obtain ⟨hg3, h⟩ := zgd_inv h
      refine zblq Hy.1 Hy.2.1 [(.aload 0, 1), (.getfield 1258, 3), (.iload 1, 1), (.iaload, 1), (.istore 3, 1), (.aload 0, 1), (.getfield 1258, 3), (.iload 1, 1), (.iload 2, 1), (.iastore, 1), (.iload 3, 1)] (S' := (39, [(0, .inr (.inr (some (12, 0)))), (1, .inl x1), (2, .inl x2), (3, .inl (rg M2 1358 0 (nx x1)))], [.inl (rg M2 1358 0 (nx x1))], zfR (rs M2 1358 0 (nx x1) x2))) (b := zin x1 10 && (zin x1 10 && true)) (by decide +kernel) rfl hg3 ?_
      cases h
      exact zret_i Hy.1 Hy.2.2 hE (by decide +kernel)
    · replace h := zite_t h hb4
      refine zblq Hy.1 Hy.2.1 [(.iconst (-3), 2)] (S' := (23, [(0, .inr (.inr (some (12, 0)))), (1, .inl x1), (2, .inl x2)], [.inl (-3 : Int32)], zfR M2)) (b := true) (by decide +kernel) rfl rfl ?_
      cases h
      exact zret_i Hy.1 Hy.2.2 hE (by decide +kernel)
  · replace h := zite_t h hb5
    refine zblq Hy.1 Hy.2.1 [(.iconst (-2), 2)] (S' := (10, [(0, .inr (.inr (some (12, 0)))), (1, .inl x1), (2, .inl x2)], [.inl (-2 : Int32)], zfR M1)) (b := true) (by decide +kernel) rfl rfl ?_
    cases h
    exact zret_i Hy.1 Hy.2.2 hE (by decide +kernel)
theorem m12_place_met {l : Launch} {G : zG} (hG : zGok G) (hcn : zgcn G = zcR) {x1 : Int32} {x2 : Int32} {M : rM} {r : Int32} {M' : rM} (h : m12_place x1 x2 M = some (r, M')) : zMet l G yX12_place cX12_place 4 (some .int) 2 43 [.inr (.inr (some (12, 0))), .inl x1, .inl x2] (zfR M) (some (.inl r)) (zfR M') :=
  zMet_of hG tbX12_ok rfl (by decide +kernel) (Nat.le_of_ble_eq_true rfl) (fun X _ Z hA hE => m12_place_ok ⟨Z, hcn, hA⟩ hE x1 x2 M h)
abbrev q12_cells : ByteArray × Nat × String × zT := (cX12_cells, 12, RX12, tbX12)
def m12_cells_213 (k30 : Int32 → Int32 → Int64 → Int32 → rM → Option (Int64 × rM)) (x1 : Int32) (x2 : Int32) (x5 : Int32) (t0 : Int64) (t1 : Int64) (M : rM) : Option (Int64 × rM) := k30 x1 x2 (t0 ||| t1) (x5 + (1 : Int32)) M
theorem m12_cells_213_ok {X : zX} {G : zG} (Hy : zHy X G q12_cells zcR 2 43 (some .long)) {r : Int64} {M' : rM} (hE : zEnd X G (some (.inr (.inl r))) (zfR M')) {k30 : Int32 → Int32 → Int64 → Int32 → rM → Option (Int64 × rM)} (hk30 : ∀ (x1 : Int32) (x2 : Int32) (x3 : Int64) (x5 : Int32) (M : rM), k30 x1 x2 x3 x5 M = some (r, M') → zGo (X, q12_cells, G) 0 0 (30, [(0, .inr (.inr (some (12, 0)))), (1, .inl x1), (2, .inl x2), (3, .inr (.inl x3)), (5, .inl x5)], [], zfR M)) (x1 : Int32) (x2 : Int32) (x5 : Int32) (t0 : Int64) (t1 : Int64) (M : rM) (h : m12_cells_213 k30 x1 x2 x5 t0 t1 M = some (r, M')) : zGo (X, q12_cells, G) 0 0 (213, [(0, .inr (.inr (some (12, 0)))), (1, .inl x1), (2, .inl x2), (5, .inl x5)], [.inr (.inl t1), .inr (.inl t0)], zfR M) := by
  unfold m12_cells_213 at h
  refine zblq Hy.1 Hy.2.1 [(.lor, 1), (.lstore 3, 1), (.iinc 5 1, 3), (.ldc 30, 3)] (S' := (30, [(0, .inr (.inr (some (12, 0)))), (1, .inl x1), (2, .inl x2), (3, .inr (.inl (t0 ||| t1))), (5, .inl (x5 + (1 : Int32)))], [], zfR M)) (b := true) (by decide +kernel) rfl rfl ?_
  refine zGo_keep [0, 1, 2, 3, 5] rfl ?_
  exact hk30 x1 x2 (t0 ||| t1) (x5 + (1 : Int32)) M h
def m12_cells_192 (k30 : Int32 → Int32 → Int64 → Int32 → rM → Option (Int64 × rM)) (k43 : Int32 → Int32 → Int64 → Int32 → Int32 → Int32 → rM → Option (Int64 × rM)) (x1 : Int32) (x2 : Int32) (x3 : Int64) (x5 : Int32) (x6 : Int32) (x7 : Int32) (M : rM) : Option (Int64 × rM) := k43 x1 x2 x3 x5 x6 (x7 + (1 : Int32)) M
theorem m12_cells_192_ok {X : zX} {G : zG} (Hy : zHy X G q12_cells zcR 2 43 (some .long)) {r : Int64} {M' : rM} (hE : zEnd X G (some (.inr (.inl r))) (zfR M')) {k30 : Int32 → Int32 → Int64 → Int32 → rM → Option (Int64 × rM)} (hk30 : ∀ (x1 : Int32) (x2 : Int32) (x3 : Int64) (x5 : Int32) (M : rM), k30 x1 x2 x3 x5 M = some (r, M') → zGo (X, q12_cells, G) 0 0 (30, [(0, .inr (.inr (some (12, 0)))), (1, .inl x1), (2, .inl x2), (3, .inr (.inl x3)), (5, .inl x5)], [], zfR M)) {k43 : Int32 → Int32 → Int64 → Int32 → Int32 → Int32 → rM → Option (Int64 × rM)} (hk43 : ∀ (x1 : Int32) (x2 : Int32) (x3 : Int64) (x5 : Int32) (x6 : Int32) (x7 : Int32) (M : rM), k43 x1 x2 x3 x5 x6 x7 M = some (r, M') → zGo (X, q12_cells, G) 0 0 (43, [(0, .inr (.inr (some (12, 0)))), (1, .inl x1), (2, .inl x2), (3, .inr (.inl x3)), (5, .inl x5), (6, .inl x6), (7, .inl x7)], [], zfR M)) (x1 : Int32) (x2 : Int32) (x3 : Int64) (x5 : Int32) (x6 : Int32) (x7 : Int32) (M : rM) (h : m12_cells_192 k30 k43 x1 x2 x3 x5 x6 x7 M = some (r, M')) : zGo (X, q12_cells, G) 0 0 (192, [(0, .inr (.inr (some (12, 0)))), (1, .inl x1), (2, .inl x2), (3, .inr (.inl x3)), (5, .inl x5), (6, .inl x6), (7, .inl x7)], [], zfR M) := by
  unfold m12_cells_192 at h
  refine zblq Hy.1 Hy.2.1 [(.iinc 7 1, 3), (.ldc 43, 3)] (S' := (43, [(0, .inr (.inr (some (12, 0)))), (1, .inl x1), (2, .inl x2), (3, .inr (.inl x3)), (5, .inl x5), (6, .inl x6), (7, .inl (x7 + (1 : Int32)))], [], zfR M)) (b := true) (by decide +kernel) rfl rfl ?_
  refine zGo_keep [0, 1, 2, 3, 5, 6, 7] rfl ?_
  exact hk43 x1 x2 x3 x5 x6 (x7 + (1 : Int32)) M h
def m12_cells_189 (k30 : Int32 → Int32 → Int64 → Int32 → rM → Option (Int64 × rM)) (k43 : Int32 → Int32 → Int64 → Int32 → Int32 → Int32 → rM → Option (Int64 × rM)) (x1 : Int32) (x2 : Int32) (x3 : Int64) (x5 : Int32) (x7 : Int32) (t0 : Int32) (t1 : Int32) (M : rM) : Option (Int64 × rM) := m12_cells_192 k30 k43 x1 x2 x3 x5 (t0 + t1) x7 M
theorem m12_cells_189_ok {X : zX} {G : zG} (Hy : zHy X G q12_cells zcR 2 43 (some .long)) {r : Int64} {M' : rM} (hE : zEnd X G (some (.inr (.inl r))) (zfR M')) {k30 : Int32 → Int32 → Int64 → Int32 → rM → Option (Int64 × rM)} (hk30 : ∀ (x1 : Int32) (x2 : Int32) (x3 : Int64) (x5 : Int32) (M : rM), k30 x1 x2 x3 x5 M = some (r, M') → zGo (X, q12_cells, G) 0 0 (30, [(0, .inr (.inr (some (12, 0)))), (1, .inl x1), (2, .inl x2), (3, .inr (.inl x3)), (5, .inl x5)], [], zfR M)) {k43 : Int32 → Int32 → Int64 → Int32 → Int32 → Int32 → rM → Option (Int64 × rM)} (hk43 : ∀ (x1 : Int32) (x2 : Int32) (x3 : Int64) (x5 : Int32) (x6 : Int32) (x7 : Int32) (M : rM), k43 x1 x2 x3 x5 x6 x7 M = some (r, M') → zGo (X, q12_cells, G) 0 0 (43, [(0, .inr (.inr (some (12, 0)))), (1, .inl x1), (2, .inl x2), (3, .inr (.inl x3)), (5, .inl x5), (6, .inl x6), (7, .inl x7)], [], zfR M)) (x1 : Int32) (x2 : Int32) (x3 : Int64) (x5 : Int32) (x7 : Int32) (t0 : Int32) (t1 : Int32) (M : rM) (h : m12_cells_189 k30 k43 x1 x2 x3 x5 x7 t0 t1 M = some (r, M')) : zGo (X, q12_cells, G) 0 0 (189, [(0, .inr (.inr (some (12, 0)))), (1, .inl x1), (2, .inl x2), (3, .inr (.inl x3)), (5, .inl x5), (7, .inl x7)], [.inl t1, .inl t0], zfR M) := by
  unfold m12_cells_189 at h
  refine zblq Hy.1 Hy.2.1 [(.iadd, 1), (.istore 6, 2)] (S' := (192, [(0, .inr (.inr (some (12, 0)))), (1, .inl x1), (2, .inl x2), (3, .inr (.inl x3)), (5, .inl x5), (6, .inl (t0 + t1)), (7, .inl x7)], [], zfR M)) (b := true) (by decide +kernel) rfl rfl ?_
  refine zGo_keep [0, 1, 2, 3, 5, 6, 7] rfl ?_
  exact m12_cells_192_ok Hy hE hk30 hk43 x1 x2 x3 x5 (t0 + t1) x7 M h
def m12_cells_173 (k30 : Int32 → Int32 → Int64 → Int32 → rM → Option (Int64 × rM)) (k43 : Int32 → Int32 → Int64 → Int32 → Int32 → Int32 → rM → Option (Int64 × rM)) (x1 : Int32) (x2 : Int32) (x3 : Int64) (x5 : Int32) (x6 : Int32) (x7 : Int32) (x10 : Int32) (t0 : Int32) (M : rM) : Option (Int64 × rM) := (if x10 = t0 then m12_cells_189 k30 k43 x1 x2 x3 x5 x7 x6 (0 : Int32) M else m12_cells_189 k30 k43 x1 x2 x3 x5 x7 x6 (1 : Int32) M)
theorem m12_cells_173_ok {X : zX} {G : zG} (Hy : zHy X G q12_cells zcR 2 43 (some .long)) {r : Int64} {M' : rM} (hE : zEnd X G (some (.inr (.inl r))) (zfR M')) {k30 : Int32 → Int32 → Int64 → Int32 → rM → Option (Int64 × rM)} (hk30 : ∀ (x1 : Int32) (x2 : Int32) (x3 : Int64) (x5 : Int32) (M : rM), k30 x1 x2 x3 x5 M = some (r, M') → zGo (X, q12_cells, G) 0 0 (30, [(0, .inr (.inr (some (12, 0)))), (1, .inl x1), (2, .inl x2), (3, .inr (.inl x3)), (5, .inl x5)], [], zfR M)) {k43 : Int32 → Int32 → Int64 → Int32 → Int32 → Int32 → rM → Option (Int64 × rM)} (hk43 : ∀ (x1 : Int32) (x2 : Int32) (x3 : Int64) (x5 : Int32) (x6 : Int32) (x7 : Int32) (M : rM), k43 x1 x2 x3 x5 x6 x7 M = some (r, M') → zGo (X, q12_cells, G) 0 0 (43, [(0, .inr (.inr (some (12, 0)))), (1, .inl x1), (2, .inl x2), (3, .inr (.inl x3)), (5, .inl x5), (6, .inl x6), (7, .inl x7)], [], zfR M)) (x1 : Int32) (x2 : Int32) (x3 : Int64) (x5 : Int32) (x6 : Int32) (x7 : Int32) (x10 : Int32) (t0 : Int32) (M : rM) (h : m12_cells_173 k30 k43 x1 x2 x3 x5 x6 x7 x10 t0 M = some (r, M')) : zGo (X, q12_cells, G) 0 0 (173, [(0, .inr (.inr (some (12, 0)))), (1, .inl x1), (2, .inl x2), (3, .inr (.inl x3)), (5, .inl x5), (6, .inl x6), (7, .inl x7), (10, .inl x10)], [.inl t0], zfR M) := by
  unfold m12_cells_173 at h
  refine zblq Hy.1 Hy.2.1 [(.istore 11, 2), (.iload 6, 2), (.iload 10, 2), (.iload 11, 2)] (S' := (181, [(0, .inr (.inr (some (12, 0)))), (1, .inl x1), (2, .inl x2), (3, .inr (.inl x3)), (5, .inl x5), (6, .inl x6), (7, .inl x7), (10, .inl x10), (11, .inl t0)], [.inl t0, .inl x10, .inl x6], zfR M)) (b := true) (by decide +kernel) rfl rfl ?_
  refine zic_eq Hy.1 (off := 7) (tgt := 188) (by decide +kernel) (by decide) (fun hb8 => ?_) (fun hb8 => ?_)
  · replace h := zite_t h hb8
    refine zblq Hy.1 Hy.2.1 [(.iconst 0, 1)] (S' := (189, [(0, .inr (.inr (some (12, 0)))), (1, .inl x1), (2, .inl x2), (3, .inr (.inl x3)), (5, .inl x5), (6, .inl x6), (7, .inl x7), (10, .inl x10), (11, .inl t0)], [.inl (0 : Int32), .inl x6], zfR M)) (b := true) (by decide +kernel) rfl rfl ?_
    refine zGo_keep [0, 1, 2, 3, 5, 7] rfl ?_
    exact m12_cells_189_ok Hy hE hk30 hk43 x1 x2 x3 x5 x7 x6 (0 : Int32) M h
  · replace h := zite_f h hb8
    refine zblq Hy.1 Hy.2.1 [(.iconst 1, 1), (.ldc 189, 3)] (S' := (189, [(0, .inr (.inr (some (12, 0)))), (1, .inl x1), (2, .inl x2), (3, .inr (.inl x3)), (5, .inl x5), (6, .inl x6), (7, .inl x7), (10, .inl x10), (11, .inl t0)], [.inl (1 : Int32), .inl x6], zfR M)) (b := true) (by decide +kernel) rfl rfl ?_
    refine zGo_keep [0, 1, 2, 3, 5, 7] rfl ?_
    exact m12_cells_189_ok Hy hE hk30 hk43 x1 x2 x3 x5 x7 x6 (1 : Int32) M h
def m12_cells_138 (k30 : Int32 → Int32 → Int64 → Int32 → rM → Option (Int64 × rM)) (k43 : Int32 → Int32 → Int64 → Int32 → Int32 → Int32 → rM → Option (Int64 × rM)) (x1 : Int32) (x2 : Int32) (x3 : Int64) (x5 : Int32) (x6 : Int32) (x7 : Int32) (t0 : Int32) (M : rM) : Option (Int64 × rM) := zgd (zin x7 10 && true) (zbd (m12_isIn (rg M 1307 0 (nx x7)) x1 M) (fun r7 M7 => (if r7 = 0 then zgd (zin x1 10 && true) (zbd (m12_isIn (rg M7 1307 0 (nx x1)) x7 M7) (fun r10 M10 => (if r10 = 0 then m12_cells_173 k30 k43 x1 x2 x3 x5 x6 x7 t0 (0 : Int32) M10 else m12_cells_173 k30 k43 x1 x2 x3 x5 x6 x7 t0 (1 : Int32) M10))) else m12_cells_173 k30 k43 x1 x2 x3 x5 x6 x7 t0 (1 : Int32) M7)))
theorem m12_cells_138_ok {X : zX} {G : zG} (Hy : zHy X G q12_cells zcR 2 43 (some .long)) {r : Int64} {M' : rM} (hE : zEnd X G (some (.inr (.inl r))) (zfR M')) {k30 : Int32 → Int32 → Int64 → Int32 → rM → Option (Int64 × rM)} (hk30 : ∀ (x1 : Int32) (x2 : Int32) (x3 : Int64) (x5 : Int32) (M : rM), k30 x1 x2 x3 x5 M = some (r, M') → zGo (X, q12_cells, G) 0 0 (30, [(0, .inr (.inr (some (12, 0)))), (1, .inl x1), (2, .inl x2), (3, .inr (.inl x3)), (5, .inl x5)], [], zfR M)) {k43 : Int32 → Int32 → Int64 → Int32 → Int32 → Int32 → rM → Option (Int64 × rM)} (hk43 : ∀ (x1 : Int32) (x2 : Int32) (x3 : Int64) (x5 : Int32) (x6 : Int32) (x7 : Int32) (M : rM), k43 x1 x2 x3 x5 x6 x7 M = some (r, M') → zGo (X, q12_cells, G) 0 0 (43, [(0, .inr (.inr (some (12, 0)))), (1, .inl x1), (2, .inl x2), (3, .inr (.inl x3)), (5, .inl x5), (6, .inl x6), (7, .inl x7)], [], zfR M)) (x1 : Int32) (x2 : Int32) (x3 : Int64) (x5 : Int32) (x6 : Int32) (x7 : Int32) (t0 : Int32) (M : rM) (h : m12_cells_138 k30 k43 x1 x2 x3 x5 x6 x7 t0 M = some (r, M')) : zGo (X, q12_cells, G) 0 0 (138, [(0, .inr (.inr (some (12, 0)))), (1, .inl x1), (2, .inl x2), (3, .inr (.inl x3)), (5, .inl x5), (6, .inl x6), (7, .inl x7)], [.inl t0], zfR M) := by
  unfold m12_cells_138 at h
  obtain ⟨hg6, h⟩ := zgd_inv h
  refine zblq Hy.1 Hy.2.1 [(.istore 10, 2), (.aload 0, 1), (.getfield 1207, 3), (.iload 7, 2), (.iaload, 1), (.iload 1, 1)] (S' := (148, [(0, .inr (.inr (some (12, 0)))), (1, .inl x1), (2, .inl x2), (3, .inr (.inl x3)), (5, .inl x5), (6, .inl x6), (7, .inl x7), (10, .inl t0)], [.inl x1, .inl (rg M 1307 0 (nx x7))], zfR M)) (b := zin x7 10 && true) (by decide +kernel) rfl hg6 ?_
  obtain ⟨r7, M7, hc7, h⟩ := zbd_inv h
  refine zcallS Hy.1 (as := [.inl (rg M 1307 0 (nx x7)), .inl x1]) (st := []) (m12_isIn_met (zOK_G Hy.1) Hy.2.1 hc7) cw12_183 m12_isIn_in rfl (zroom Hy.2.2 ⟨by decide, by decide⟩) rfl (by decide +kernel) ⟨Nat.zero_le _, Nat.zero_le _⟩ ?_
  refine zif_ne Hy.1 (off := 17) (tgt := 168) (by decide +kernel) (by decide) (fun hb12 => ?_) (fun hb12 => ?_)
  · replace h := zite_f h hb12
    refine zblq Hy.1 Hy.2.1 [(.iconst 1, 1), (.ldc 173, 3)] (S' := (173, [(0, .inr (.inr (some (12, 0)))), (1, .inl x1), (2, .inl x2), (3, .inr (.inl x3)), (5, .inl x5), (6, .inl x6), (7, .inl x7), (10, .inl t0)], [.inl (1 : Int32)], zfR M7)) (b := true) (by decide +kernel) rfl rfl ?_
    refine zGo_keep [0, 1, 2, 3, 5, 6, 7, 10] rfl ?_
    exact m12_cells_173_ok Hy hE hk30 hk43 x1 x2 x3 x5 x6 x7 t0 (1 : Int32) M7 h
  · replace h := zite_t h hb12
    obtain ⟨hg9, h⟩ := zgd_inv h
    refine zblq Hy.1 Hy.2.1 [(.aload 0, 1), (.getfield 1207, 3), (.iload 1, 1), (.iaload, 1), (.iload 7, 2)] (S' := (162, [(0, .inr (.inr (some (12, 0)))), (1, .inl x1), (2, .inl x2), (3, .inr (.inl x3)), (5, .inl x5), (6, .inl x6), (7, .inl x7), (10, .inl t0)], [.inl x7, .inl (rg M7 1307 0 (nx x1))], zfR M7)) (b := zin x1 10 && true) (by decide +kernel) rfl hg9 ?_
    obtain ⟨r10, M10, hc10, h⟩ := zbd_inv h
    refine zcallS Hy.1 (as := [.inl (rg M7 1307 0 (nx x1)), .inl x7]) (st := []) (m12_isIn_met (zOK_G Hy.1) Hy.2.1 hc10) cw12_183 m12_isIn_in rfl (zroom Hy.2.2 ⟨by decide, by decide⟩) rfl (by decide +kernel) ⟨Nat.zero_le _, Nat.zero_le _⟩ ?_
    refine zif_eq Hy.1 (off := 7) (tgt := 172) (by decide +kernel) (by decide) (fun hb11 => ?_) (fun hb11 => ?_)
    · replace h := zite_t h hb11
      refine zblq Hy.1 Hy.2.1 [(.iconst 0, 1)] (S' := (173, [(0, .inr (.inr (some (12, 0)))), (1, .inl x1), (2, .inl x2), (3, .inr (.inl x3)), (5, .inl x5), (6, .inl x6), (7, .inl x7), (10, .inl t0)], [.inl (0 : Int32)], zfR M10)) (b := true) (by decide +kernel) rfl rfl ?_
      refine zGo_keep [0, 1, 2, 3, 5, 6, 7, 10] rfl ?_
      exact m12_cells_173_ok Hy hE hk30 hk43 x1 x2 x3 x5 x6 x7 t0 (0 : Int32) M10 h
    · replace h := zite_f h hb11
      refine zblq Hy.1 Hy.2.1 [(.iconst 1, 1), (.ldc 173, 3)] (S' := (173, [(0, .inr (.inr (some (12, 0)))), (1, .inl x1), (2, .inl x2), (3, .inr (.inl x3)), (5, .inl x5), (6, .inl x6), (7, .inl x7), (10, .inl t0)], [.inl (1 : Int32)], zfR M10)) (b := true) (by decide +kernel) rfl rfl ?_
      refine zGo_keep [0, 1, 2, 3, 5, 6, 7, 10] rfl ?_
      exact m12_cells_173_ok Hy hE hk30 hk43 x1 x2 x3 x5 x6 x7 t0 (1 : Int32) M10 h
def m12_cells_43 (k30 : Int32 → Int32 → Int64 → Int32 → rM → Option (Int64 × rM)) : Nat → Int32 → Int32 → Int64 → Int32 → Int32 → Int32 → rM → Option (Int64 × rM)
  | 0, _, _, _, _, _, _, _ => none
  | n + 1, x1, x2, x3, x5, x6, x7, M => (if (rg M 12 0 0) ≤ x7 then (if x2 < x6 then m12_cells_213 k30 x1 x2 x5 x3 (0 : Int64) M else m12_cells_213 k30 x1 x2 x5 x3 (zshlL (1 : Int64) x5) M) else (if x7 = x1 then m12_cells_192 k30 (m12_cells_43 k30 n) x1 x2 x3 x5 x6 x7 M else zgd (zin x7 10 && true) ((if (36 : Int32) ≤ (rg M 1358 0 (nx x7)) then m12_cells_192 k30 (m12_cells_43 k30 n) x1 x2 x3 x5 x6 x7 M else zgd (znz (6 : Int32) && (zin x7 10 && (znz (6 : Int32) && (znz (6 : Int32) && (zin x7 10 && (znz (6 : Int32) && (zin (5 : Int32) 7 && (zin (5 : Int32) 7 && true)))))))) ((if ((rg M 1312 0 (nx (5 : Int32))) * (rg M 1312 0 (nx (5 : Int32)))) < ((((zrem x5 (6 : Int32)) - (zrem (rg M 1358 0 (nx x7)) (6 : Int32))) * ((zrem x5 (6 : Int32)) - (zrem (rg M 1358 0 (nx x7)) (6 : Int32)))) + (((x5 / (6 : Int32)) - ((rg M 1358 0 (nx x7)) / (6 : Int32))) * ((x5 / (6 : Int32)) - ((rg M 1358 0 (nx x7)) / (6 : Int32))))) then m12_cells_138 k30 (m12_cells_43 k30 n) x1 x2 x3 x5 x6 x7 (0 : Int32) M else m12_cells_138 k30 (m12_cells_43 k30 n) x1 x2 x3 x5 x6 x7 (1 : Int32) M))))))
theorem m12_cells_43_ok {X : zX} {G : zG} (Hy : zHy X G q12_cells zcR 2 43 (some .long)) {r : Int64} {M' : rM} (hE : zEnd X G (some (.inr (.inl r))) (zfR M')) {k30 : Int32 → Int32 → Int64 → Int32 → rM → Option (Int64 × rM)} (hk30 : ∀ (x1 : Int32) (x2 : Int32) (x3 : Int64) (x5 : Int32) (M : rM), k30 x1 x2 x3 x5 M = some (r, M') → zGo (X, q12_cells, G) 0 0 (30, [(0, .inr (.inr (some (12, 0)))), (1, .inl x1), (2, .inl x2), (3, .inr (.inl x3)), (5, .inl x5)], [], zfR M)) : ∀ (n : Nat) (x1 : Int32) (x2 : Int32) (x3 : Int64) (x5 : Int32) (x6 : Int32) (x7 : Int32) (M : rM), m12_cells_43 k30 n x1 x2 x3 x5 x6 x7 M = some (r, M') → zGo (X, q12_cells, G) 0 0 (43, [(0, .inr (.inr (some (12, 0)))), (1, .inl x1), (2, .inl x2), (3, .inr (.inl x3)), (5, .inl x5), (6, .inl x6), (7, .inl x7)], [], zfR M) := by
  intro n
  induction n with
  | zero => intro x1 x2 x3 x5 x6 x7 M h; cases h
  | succ n ih =>
    intro x1 x2 x3 x5 x6 x7 M h
    unfold m12_cells_43 at h
    refine zblq Hy.1 Hy.2.1 [(.iload 7, 2), (.aload 0, 1), (.multianewarray 12 0, 3)] (S' := (49, [(0, .inr (.inr (some (12, 0)))), (1, .inl x1), (2, .inl x2), (3, .inr (.inl x3)), (5, .inl x5), (6, .inl x6), (7, .inl x7)], [.inl (rg M 12 0 0), .inl x7], zfR M)) (b := true) (by decide +kernel) rfl rfl ?_
    refine zic_ge Hy.1 (off := 149) (tgt := 198) (by decide +kernel) (by decide) (fun hb16 => ?_) (fun hb16 => ?_)
    · replace h := zite_t h hb16
      refine zblq Hy.1 Hy.2.1 [(.lload 3, 1), (.iload 6, 2), (.iload 2, 1)] (S' := (202, [(0, .inr (.inr (some (12, 0)))), (1, .inl x1), (2, .inl x2), (3, .inr (.inl x3)), (5, .inl x5), (6, .inl x6), (7, .inl x7)], [.inl x2, .inl x6, .inr (.inl x3)], zfR M)) (b := true) (by decide +kernel) rfl rfl ?_
      refine zic_gt Hy.1 (off := 10) (tgt := 212) (by decide +kernel) (by decide) (fun hb3 => ?_) (fun hb3 => ?_)
      · replace h := zite_t h hb3
        refine zblq Hy.1 Hy.2.1 [(.goto_w 0, 1)] (S' := (213, [(0, .inr (.inr (some (12, 0)))), (1, .inl x1), (2, .inl x2), (3, .inr (.inl x3)), (5, .inl x5), (6, .inl x6), (7, .inl x7)], [.inr (.inl (0 : Int64)), .inr (.inl x3)], zfR M)) (b := true) (by decide +kernel) rfl rfl ?_
        refine zGo_keep [0, 1, 2, 5] rfl ?_
        exact m12_cells_213_ok Hy hE hk30 x1 x2 x5 x3 (0 : Int64) M h
      · replace h := zite_f h hb3
        refine zblq Hy.1 Hy.2.1 [(.goto_w 1, 1), (.iload 5, 2), (.lshl, 1), (.ldc 213, 3)] (S' := (213, [(0, .inr (.inr (some (12, 0)))), (1, .inl x1), (2, .inl x2), (3, .inr (.inl x3)), (5, .inl x5), (6, .inl x6), (7, .inl x7)], [.inr (.inl (zshlL (1 : Int64) x5)), .inr (.inl x3)], zfR M)) (b := true) (by decide +kernel) rfl rfl ?_
        refine zGo_keep [0, 1, 2, 5] rfl ?_
        exact m12_cells_213_ok Hy hE hk30 x1 x2 x5 x3 (zshlL (1 : Int64) x5) M h
    · replace h := zite_f h hb16
      refine zblq Hy.1 Hy.2.1 [(.iload 7, 2), (.iload 1, 1)] (S' := (55, [(0, .inr (.inr (some (12, 0)))), (1, .inl x1), (2, .inl x2), (3, .inr (.inl x3)), (5, .inl x5), (6, .inl x6), (7, .inl x7)], [.inl x1, .inl x7], zfR M)) (b := true) (by decide +kernel) rfl rfl ?_
      refine zic_eq Hy.1 (off := 137) (tgt := 192) (by decide +kernel) (by decide) (fun hb15 => ?_) (fun hb15 => ?_)
      · replace h := zite_t h hb15
        refine zGo_keep [0, 1, 2, 3, 5, 6, 7] rfl ?_
        exact m12_cells_192_ok Hy hE hk30 ih x1 x2 x3 x5 x6 x7 M h
      · replace h := zite_f h hb15
        obtain ⟨hg4, h⟩ := zgd_inv h
        refine zblq Hy.1 Hy.2.1 [(.aload 0, 1), (.getfield 1258, 3), (.iload 7, 2), (.iaload, 1), (.iconst 36, 2)] (S' := (67, [(0, .inr (.inr (some (12, 0)))), (1, .inl x1), (2, .inl x2), (3, .inr (.inl x3)), (5, .inl x5), (6, .inl x6), (7, .inl x7)], [.inl (36 : Int32), .inl (rg M 1358 0 (nx x7))], zfR M)) (b := zin x7 10 && true) (by decide +kernel) rfl hg4 ?_
        refine zic_ge Hy.1 (off := 125) (tgt := 192) (by decide +kernel) (by decide) (fun hb14 => ?_) (fun hb14 => ?_)
        · replace h := zite_t h hb14
          refine zGo_keep [0, 1, 2, 3, 5, 6, 7] rfl ?_
          exact m12_cells_192_ok Hy hE hk30 ih x1 x2 x3 x5 x6 x7 M h
        · replace h := zite_f h hb14
          obtain ⟨hg5, h⟩ := zgd_inv h
          refine zblq Hy.1 Hy.2.1 [(.iload 5, 2), (.iconst 6, 2), (.irem, 1), (.aload 0, 1), (.getfield 1258, 3), (.iload 7, 2), (.iaload, 1), (.iconst 6, 2), (.irem, 1), (.isub, 1), (.istore 8, 2), (.iload 5, 2), (.iconst 6, 2), (.idiv, 1), (.aload 0, 1), (.getfield 1258, 3), (.iload 7, 2), (.iaload, 1), (.iconst 6, 2), (.idiv, 1), (.isub, 1), (.istore 9, 2), (.iload 8, 2), (.iload 8, 2), (.imul, 1), (.iload 9, 2), (.iload 9, 2), (.imul, 1), (.iadd, 1), (.aload 0, 1), (.getfield 1212, 3), (.iconst 5, 1), (.iaload, 1), (.aload 0, 1), (.getfield 1212, 3), (.iconst 5, 1), (.iaload, 1), (.imul, 1)] (S' := (130, [(0, .inr (.inr (some (12, 0)))), (1, .inl x1), (2, .inl x2), (3, .inr (.inl x3)), (5, .inl x5), (6, .inl x6), (7, .inl x7), (8, .inl ((zrem x5 (6 : Int32)) - (zrem (rg M 1358 0 (nx x7)) (6 : Int32)))), (9, .inl ((x5 / (6 : Int32)) - ((rg M 1358 0 (nx x7)) / (6 : Int32))))], [.inl ((rg M 1312 0 (nx (5 : Int32))) * (rg M 1312 0 (nx (5 : Int32)))), .inl ((((zrem x5 (6 : Int32)) - (zrem (rg M 1358 0 (nx x7)) (6 : Int32))) * ((zrem x5 (6 : Int32)) - (zrem (rg M 1358 0 (nx x7)) (6 : Int32)))) + (((x5 / (6 : Int32)) - ((rg M 1358 0 (nx x7)) / (6 : Int32))) * ((x5 / (6 : Int32)) - ((rg M 1358 0 (nx x7)) / (6 : Int32)))))], zfR M)) (b := znz (6 : Int32) && (zin x7 10 && (znz (6 : Int32) && (znz (6 : Int32) && (zin x7 10 && (znz (6 : Int32) && (zin (5 : Int32) 7 && (zin (5 : Int32) 7 && true)))))))) (by decide +kernel) rfl hg5 ?_
          refine zic_gt Hy.1 (off := 7) (tgt := 137) (by decide +kernel) (by decide) (fun hb13 => ?_) (fun hb13 => ?_)
          · replace h := zite_t h hb13
            refine zblq Hy.1 Hy.2.1 [(.iconst 0, 1)] (S' := (138, [(0, .inr (.inr (some (12, 0)))), (1, .inl x1), (2, .inl x2), (3, .inr (.inl x3)), (5, .inl x5), (6, .inl x6), (7, .inl x7), (8, .inl ((zrem x5 (6 : Int32)) - (zrem (rg M 1358 0 (nx x7)) (6 : Int32)))), (9, .inl ((x5 / (6 : Int32)) - ((rg M 1358 0 (nx x7)) / (6 : Int32))))], [.inl (0 : Int32)], zfR M)) (b := true) (by decide +kernel) rfl rfl ?_
            refine zGo_keep [0, 1, 2, 3, 5, 6, 7] rfl ?_
            exact m12_cells_138_ok Hy hE hk30 ih x1 x2 x3 x5 x6 x7 (0 : Int32) M h
          · replace h := zite_f h hb13
            refine zblq Hy.1 Hy.2.1 [(.iconst 1, 1), (.ldc 138, 3)] (S' := (138, [(0, .inr (.inr (some (12, 0)))), (1, .inl x1), (2, .inl x2), (3, .inr (.inl x3)), (5, .inl x5), (6, .inl x6), (7, .inl x7), (8, .inl ((zrem x5 (6 : Int32)) - (zrem (rg M 1358 0 (nx x7)) (6 : Int32)))), (9, .inl ((x5 / (6 : Int32)) - ((rg M 1358 0 (nx x7)) / (6 : Int32))))], [.inl (1 : Int32)], zfR M)) (b := true) (by decide +kernel) rfl rfl ?_
            refine zGo_keep [0, 1, 2, 3, 5, 6, 7] rfl ?_
            exact m12_cells_138_ok Hy hE hk30 ih x1 x2 x3 x5 x6 x7 (1 : Int32) M h
def m12_cells_30 : Nat → Int32 → Int32 → Int64 → Int32 → rM → Option (Int64 × rM)
  | 0, _, _, _, _, _ => none
  | n + 1, x1, x2, x3, x5, M => (if (36 : Int32) ≤ x5 then some (x3, M) else m12_cells_43 (m12_cells_30 n) zfu x1 x2 x3 x5 (0 : Int32) (0 : Int32) M)
theorem m12_cells_30_ok {X : zX} {G : zG} (Hy : zHy X G q12_cells zcR 2 43 (some .long)) {r : Int64} {M' : rM} (hE : zEnd X G (some (.inr (.inl r))) (zfR M')) : ∀ (n : Nat) (x1 : Int32) (x2 : Int32) (x3 : Int64) (x5 : Int32) (M : rM), m12_cells_30 n x1 x2 x3 x5 M = some (r, M') → zGo (X, q12_cells, G) 0 0 (30, [(0, .inr (.inr (some (12, 0)))), (1, .inl x1), (2, .inl x2), (3, .inr (.inl x3)), (5, .inl x5)], [], zfR M) := by
  intro n
  induction n with
  | zero => intro x1 x2 x3 x5 M h; cases h
  | succ n ih =>
    intro x1 x2 x3 x5 M h
    unfold m12_cells_30 at h
    refine zblq Hy.1 Hy.2.1 [(.iload 5, 2), (.iconst 36, 2)] (S' := (34, [(0, .inr (.inr (some (12, 0)))), (1, .inl x1), (2, .inl x2), (3, .inr (.inl x3)), (5, .inl x5)], [.inl (36 : Int32), .inl x5], zfR M)) (b := true) (by decide +kernel) rfl rfl ?_
    refine zic_ge Hy.1 (off := 187) (tgt := 221) (by decide +kernel) (by decide) (fun hb17 => ?_) (fun hb17 => ?_)
    · replace h := zite_t h hb17
      refine zblq Hy.1 Hy.2.1 [(.lload 3, 1)] (S' := (222, [(0, .inr (.inr (some (12, 0)))), (1, .inl x1), (2, .inl x2), (3, .inr (.inl x3)), (5, .inl x5)], [.inr (.inl x3)], zfR M)) (b := true) (by decide +kernel) rfl rfl ?_
      cases h
      exact zret_l Hy.1 Hy.2.2 hE (by decide +kernel)
    · replace h := zite_f h hb17
      refine zblq Hy.1 Hy.2.1 [(.iconst 0, 1), (.istore 6, 2), (.iconst 0, 1), (.istore 7, 2)] (S' := (43, [(0, .inr (.inr (some (12, 0)))), (1, .inl x1), (2, .inl x2), (3, .inr (.inl x3)), (5, .inl x5), (6, .inl (0 : Int32)), (7, .inl (0 : Int32))], [], zfR M)) (b := true) (by decide +kernel) rfl rfl ?_
      refine zGo_keep [0, 1, 2, 3, 5, 6, 7] rfl ?_
      exact m12_cells_43_ok Hy hE ih zfu x1 x2 x3 x5 (0 : Int32) (0 : Int32) M h
def m12_cells (x1 : Int32) (x2 : Int32) (M : rM) : Option (Int64 × rM) := zbd (m12_isBox x1 M) (fun r1 M1 => (if r1 = 0 then some ((-2 : Int64), M1) else zbd (m12_in x2 (0 : Int32) (2 : Int32) M1) (fun r2 M2 => (if r2 = 0 then some ((-3 : Int64), M2) else m12_cells_30 zfu x1 x2 (0 : Int64) (0 : Int32) M2))))
theorem m12_cells_ok {X : zX} {G : zG} (Hy : zHy X G q12_cells zcR 2 43 (some .long)) {r : Int64} {M' : rM} (hE : zEnd X G (some (.inr (.inl r))) (zfR M')) (x1 : Int32) (x2 : Int32) (M : rM) (h : m12_cells x1 x2 M = some (r, M')) : zGo (X, q12_cells, G) 0 0 (0, [(0, .inr (.inr (some (12, 0)))), (1, .inl x1), (2, .inl x2)], [], zfR M) := by
  unfold m12_cells at h
  refine zblq Hy.1 Hy.2.1 [(.aload 0, 1), (.iload 1, 1)] (S' := (2, [(0, .inr (.inr (some (12, 0)))), (1, .inl x1), (2, .inl x2)], [.inl x1, .inr (.inr (some (12, 0)))], zfR M)) (b := true) (by decide +kernel) rfl rfl ?_
  obtain ⟨r1, M1, hc1, h⟩ := zbd_inv h
  refine zcallV Hy.1 (as := [.inl x1]) (st := []) (m12_isBox_met (zOK_G Hy.1) Hy.2.1 hc1) cw12_175 m12_isBox_in m12_isBox_se (by decide) (zhlv Hy.2.1 rfl) rfl (zroom Hy.2.2 ⟨by decide, by decide⟩) rfl (by decide +kernel) ⟨Nat.zero_le _, Nat.zero_le _⟩ ?_
  refine zif_ne Hy.1 (off := 7) (tgt := 12) (by decide +kernel) (by decide) (fun hb19 => ?_) (fun hb19 => ?_)
  · replace h := zite_f h hb19
    refine zblq Hy.1 Hy.2.1 [(.iload 2, 1), (.iconst 0, 1), (.iconst 2, 1)] (S' := (15, [(0, .inr (.inr (some (12, 0)))), (1, .inl x1), (2, .inl x2)], [.inl (2 : Int32), .inl (0 : Int32), .inl x2], zfR M1)) (b := true) (by decide +kernel) rfl rfl ?_
    obtain ⟨r2, M2, hc2, h⟩ := zbd_inv h
    refine zcallS Hy.1 (as := [.inl x2, .inl (0 : Int32), .inl (2 : Int32)]) (st := []) (m12_in_met (zOK_G Hy.1) Hy.2.1 hc2) cw12_171 m12_in_in rfl (zroom Hy.2.2 ⟨by decide, by decide⟩) rfl (by decide +kernel) ⟨Nat.zero_le _, Nat.zero_le _⟩ ?_
    refine zif_ne Hy.1 (off := 7) (tgt := 25) (by decide +kernel) (by decide) (fun hb18 => ?_) (fun hb18 => ?_)
    · replace h := zite_f h hb18
      refine zblq Hy.1 Hy.2.1 [(.goto_w 0, 1), (.lstore 3, 1), (.iconst 0, 1), (.istore 5, 2)] (S' := (30, [(0, .inr (.inr (some (12, 0)))), (1, .inl x1), (2, .inl x2), (3, .inr (.inl (0 : Int64))), (5, .inl (0 : Int32))], [], zfR M2)) (b := true) (by decide +kernel) rfl rfl ?_
      refine zGo_keep [0, 1, 2, 3, 5] rfl ?_
      exact m12_cells_30_ok Hy hE zfu x1 x2 (0 : Int64) (0 : Int32) M2 h
    · replace h := zite_t h hb18
      refine zblq Hy.1 Hy.2.1 [(.goto_w (-3), 3)] (S' := (24, [(0, .inr (.inr (some (12, 0)))), (1, .inl x1), (2, .inl x2)], [.inr (.inl (-3 : Int64))], zfR M2)) (b := true) (by decide +kernel) rfl rfl ?_
      cases h
      exact zret_l Hy.1 Hy.2.2 hE (by decide +kernel)
  · replace h := zite_t h hb19
    refine zblq Hy.1 Hy.2.1 [(.goto_w (-2), 3)] (S' := (11, [(0, .inr (.inr (some (12, 0)))), (1, .inl x1), (2, .inl x2)], [.inr (.inl (-2 : Int64))], zfR M1)) (b := true) (by decide +kernel) rfl rfl ?_
    cases h
    exact zret_l Hy.1 Hy.2.2 hE (by decide +kernel)
theorem m12_cells_met {l : Launch} {G : zG} (hG : zGok G) (hcn : zgcn G = zcR) {x1 : Int32} {x2 : Int32} {M : rM} {r : Int64} {M' : rM} (h : m12_cells x1 x2 M = some (r, M')) : zMet l G yX12_cells cX12_cells 12 (some .long) 2 43 [.inr (.inr (some (12, 0))), .inl x1, .inl x2] (zfR M) (some (.inr (.inl r))) (zfR M') :=
  zMet_of hG tbX12_ok rfl (by decide +kernel) (Nat.le_of_ble_eq_true rfl) (fun X _ Z hA hE => m12_cells_ok ⟨Z, hcn, hA⟩ hE x1 x2 M h)
abbrev q12_program : ByteArray × Nat × String × zT := (cX12_program, 6, RX12, tbX12)
def m12_program_81 : Nat → Int32 → Int64 → Int32 → Int32 → rM → Option (Int32 × rM)
  | 0, _, _, _, _, _ => none
  | n + 1, x1, x2, x4, x5, M => (if x1 ≤ x5 then zgd (znz (251 : Int32) && true) (some (rg (rs M 12 0 61 (zrem x4 (251 : Int32))) 12 0 59, rs M 12 0 61 (zrem x4 (251 : Int32)))) else zgd (zin x5 80 && (zin x5 80 && true)) ((m12_program_81 n) x1 x2 (x4 + (rg (rs M 1364 0 (nx x5) (Int64.toInt32 ((zshrL x2 ((8 : Int32) * x5)) &&& (255 : Int64)))) 1364 0 (nx x5))) (x5 + (1 : Int32)) (rs M 1364 0 (nx x5) (Int64.toInt32 ((zshrL x2 ((8 : Int32) * x5)) &&& (255 : Int64))))))
theorem m12_program_81_ok {X : zX} {G : zG} (Hy : zHy X G q12_program zcR 1 22 (some .int)) {r : Int32} {M' : rM} (hE : zEnd X G (some (.inl r)) (zfR M')) : ∀ (n : Nat) (x1 : Int32) (x2 : Int64) (x4 : Int32) (x5 : Int32) (M : rM), m12_program_81 n x1 x2 x4 x5 M = some (r, M') → zGo (X, q12_program, G) 0 0 (81, [(0, .inr (.inr (some (12, 0)))), (1, .inl x1), (2, .inr (.inl x2)), (4, .inl x4), (5, .inl x5)], [], zfR M) := by
  intro n
  induction n with
  | zero => intro x1 x2 x4 x5 M h; cases h
  | succ n ih =>
    intro x1 x2 x4 x5 M h
    unfold m12_program_81 at h
    refine zblq Hy.1 Hy.2.1 [(.iload 5, 2), (.iload 1, 1)] (S' := (84, [(0, .inr (.inr (some (12, 0)))), (1, .inl x1), (2, .inr (.inl x2)), (4, .inl x4), (5, .inl x5)], [.inl x1, .inl x5], zfR M)) (b := true) (by decide +kernel) rfl rfl ?_
    refine zic_ge Hy.1 (off := 40) (tgt := 124) (by decide +kernel) (by decide) (fun hb4 => ?_) (fun hb4 => ?_)
    · replace h := zite_t h hb4
      obtain ⟨hg2, h⟩ := zgd_inv h
      refine zblq Hy.1 Hy.2.1 [(.aload 0, 1), (.iload 4, 2), (.iconst 251, 3), (.irem, 1), (.invokeinterface 12 61, 3), (.aload 0, 1), (.multianewarray 12 59, 3)] (S' := (138, [(0, .inr (.inr (some (12, 0)))), (1, .inl x1), (2, .inr (.inl x2)), (4, .inl x4), (5, .inl x5)], [.inl (rg (rs M 12 0 61 (zrem x4 (251 : Int32))) 12 0 59)], zfR (rs M 12 0 61 (zrem x4 (251 : Int32))))) (b := znz (251 : Int32) && true) (by decide +kernel) rfl hg2 ?_
      cases h
      exact zret_i Hy.1 Hy.2.2 hE (by decide +kernel)
    · replace h := zite_f h hb4
      obtain ⟨hg3, h⟩ := zgd_inv h
      refine zblq Hy.1 Hy.2.1 [(.aload 0, 1), (.getfield 1264, 3), (.iload 5, 2), (.lload 2, 1), (.iconst 8, 2), (.iload 5, 2), (.imul, 1), (.lshr, 1), (.goto_w 255, 3), (.land, 1), (.l2i, 1), (.iastore, 1), (.iload 4, 2), (.aload 0, 1), (.getfield 1264, 3), (.iload 5, 2), (.iaload, 1), (.iadd, 1), (.istore 4, 2), (.iinc 5 1, 3), (.ldc 81, 3)] (S' := (81, [(0, .inr (.inr (some (12, 0)))), (1, .inl x1), (2, .inr (.inl x2)), (4, .inl (x4 + (rg (rs M 1364 0 (nx x5) (Int64.toInt32 ((zshrL x2 ((8 : Int32) * x5)) &&& (255 : Int64)))) 1364 0 (nx x5)))), (5, .inl (x5 + (1 : Int32)))], [], zfR (rs M 1364 0 (nx x5) (Int64.toInt32 ((zshrL x2 ((8 : Int32) * x5)) &&& (255 : Int64)))))) (b := zin x5 80 && (zin x5 80 && true)) (by decide +kernel) rfl hg3 ?_
      refine zGo_keep [0, 1, 2, 4, 5] rfl ?_
      exact ih x1 x2 (x4 + (rg (rs M 1364 0 (nx x5) (Int64.toInt32 ((zshrL x2 ((8 : Int32) * x5)) &&& (255 : Int64)))) 1364 0 (nx x5))) (x5 + (1 : Int32)) (rs M 1364 0 (nx x5) (Int64.toInt32 ((zshrL x2 ((8 : Int32) * x5)) &&& (255 : Int64)))) h
def m12_program_71 (k44 : Int32 → Int64 → Int32 → Int32 → rM → Option (Int32 × rM)) (x1 : Int32) (x2 : Int64) (x4 : Int32) (x5 : Int32) (t1 : Int32) (t2 : Int32) (M : rM) : Option (Int32 × rM) := zgd (zin t1 10 && true) (k44 x1 x2 x4 (x5 + (1 : Int32)) (rs M 1362 0 (nx t1) t2))
theorem m12_program_71_ok {X : zX} {G : zG} (Hy : zHy X G q12_program zcR 1 22 (some .int)) {r : Int32} {M' : rM} (hE : zEnd X G (some (.inl r)) (zfR M')) {k44 : Int32 → Int64 → Int32 → Int32 → rM → Option (Int32 × rM)} (hk44 : ∀ (x1 : Int32) (x2 : Int64) (x4 : Int32) (x5 : Int32) (M : rM), k44 x1 x2 x4 x5 M = some (r, M') → zGo (X, q12_program, G) 0 0 (44, [(0, .inr (.inr (some (12, 0)))), (1, .inl x1), (2, .inr (.inl x2)), (4, .inl x4), (5, .inl x5)], [], zfR M)) (x1 : Int32) (x2 : Int64) (x4 : Int32) (x5 : Int32) (t1 : Int32) (t2 : Int32) (M : rM) (h : m12_program_71 k44 x1 x2 x4 x5 t1 t2 M = some (r, M')) : zGo (X, q12_program, G) 0 0 (71, [(0, .inr (.inr (some (12, 0)))), (1, .inl x1), (2, .inr (.inl x2)), (4, .inl x4), (5, .inl x5)], [.inl t2, .inl t1, .inr (.inr (some (1362, 0)))], zfR M) := by
  unfold m12_program_71 at h
  obtain ⟨hg5, h⟩ := zgd_inv h
  refine zblq Hy.1 Hy.2.1 [(.iastore, 1), (.iinc 5 1, 3), (.ldc 44, 3)] (S' := (44, [(0, .inr (.inr (some (12, 0)))), (1, .inl x1), (2, .inr (.inl x2)), (4, .inl x4), (5, .inl (x5 + (1 : Int32)))], [], zfR (rs M 1362 0 (nx t1) t2))) (b := zin t1 10 && true) (by decide +kernel) rfl hg5 ?_
  refine zGo_keep [0, 1, 2, 4, 5] rfl ?_
  exact hk44 x1 x2 x4 (x5 + (1 : Int32)) (rs M 1362 0 (nx t1) t2) h
def m12_program_44 : Nat → Int32 → Int64 → Int32 → Int32 → rM → Option (Int32 × rM)
  | 0, _, _, _, _, _ => none
  | n + 1, x1, x2, x4, x5, M => (if (10 : Int32) ≤ x5 then m12_program_81 zfu x1 x2 x4 (0 : Int32) M else (if x5 = 0 then m12_program_71 (m12_program_44 n) x1 x2 x4 x5 x5 ((zshl (1 : Int32) x1) - (1 : Int32)) M else m12_program_71 (m12_program_44 n) x1 x2 x4 x5 x5 (0 : Int32) M))
theorem m12_program_44_ok {X : zX} {G : zG} (Hy : zHy X G q12_program zcR 1 22 (some .int)) {r : Int32} {M' : rM} (hE : zEnd X G (some (.inl r)) (zfR M')) : ∀ (n : Nat) (x1 : Int32) (x2 : Int64) (x4 : Int32) (x5 : Int32) (M : rM), m12_program_44 n x1 x2 x4 x5 M = some (r, M') → zGo (X, q12_program, G) 0 0 (44, [(0, .inr (.inr (some (12, 0)))), (1, .inl x1), (2, .inr (.inl x2)), (4, .inl x4), (5, .inl x5)], [], zfR M) := by
  intro n
  induction n with
  | zero => intro x1 x2 x4 x5 M h; cases h
  | succ n ih =>
    intro x1 x2 x4 x5 M h
    unfold m12_program_44 at h
    refine zblq Hy.1 Hy.2.1 [(.iload 5, 2), (.iconst 10, 2)] (S' := (48, [(0, .inr (.inr (some (12, 0)))), (1, .inl x1), (2, .inr (.inl x2)), (4, .inl x4), (5, .inl x5)], [.inl (10 : Int32), .inl x5], zfR M)) (b := true) (by decide +kernel) rfl rfl ?_
    refine zic_ge Hy.1 (off := 30) (tgt := 78) (by decide +kernel) (by decide) (fun hb7 => ?_) (fun hb7 => ?_)
    · replace h := zite_t h hb7
      refine zblq Hy.1 Hy.2.1 [(.iconst 0, 1), (.istore 5, 2)] (S' := (81, [(0, .inr (.inr (some (12, 0)))), (1, .inl x1), (2, .inr (.inl x2)), (4, .inl x4), (5, .inl (0 : Int32))], [], zfR M)) (b := true) (by decide +kernel) rfl rfl ?_
      refine zGo_keep [0, 1, 2, 4, 5] rfl ?_
      exact m12_program_81_ok Hy hE zfu x1 x2 x4 (0 : Int32) M h
    · replace h := zite_f h hb7
      refine zblq Hy.1 Hy.2.1 [(.aload 0, 1), (.getfield 1262, 3), (.iload 5, 2), (.iload 5, 2)] (S' := (59, [(0, .inr (.inr (some (12, 0)))), (1, .inl x1), (2, .inr (.inl x2)), (4, .inl x4), (5, .inl x5)], [.inl x5, .inl x5, .inr (.inr (some (1362, 0)))], zfR M)) (b := true) (by decide +kernel) rfl rfl ?_
      refine zif_ne Hy.1 (off := 11) (tgt := 70) (by decide +kernel) (by decide) (fun hb6 => ?_) (fun hb6 => ?_)
      · replace h := zite_f h hb6
        refine zblq Hy.1 Hy.2.1 [(.iconst 0, 1)] (S' := (71, [(0, .inr (.inr (some (12, 0)))), (1, .inl x1), (2, .inr (.inl x2)), (4, .inl x4), (5, .inl x5)], [.inl (0 : Int32), .inl x5, .inr (.inr (some (1362, 0)))], zfR M)) (b := true) (by decide +kernel) rfl rfl ?_
        refine zGo_keep [0, 1, 2, 4, 5] rfl ?_
        exact m12_program_71_ok Hy hE ih x1 x2 x4 x5 x5 (0 : Int32) M h
      · replace h := zite_t h hb6
        refine zblq Hy.1 Hy.2.1 [(.iconst 1, 1), (.iload 1, 1), (.ishl, 1), (.iconst 1, 1), (.isub, 1), (.ldc 71, 3)] (S' := (71, [(0, .inr (.inr (some (12, 0)))), (1, .inl x1), (2, .inr (.inl x2)), (4, .inl x4), (5, .inl x5)], [.inl ((zshl (1 : Int32) x1) - (1 : Int32)), .inl x5, .inr (.inr (some (1362, 0)))], zfR M)) (b := true) (by decide +kernel) rfl rfl ?_
        refine zGo_keep [0, 1, 2, 4, 5] rfl ?_
        exact m12_program_71_ok Hy hE ih x1 x2 x4 x5 x5 ((zshl (1 : Int32) x1) - (1 : Int32)) M h
def m12_program (x1 : Int32) (x2 : Int64) (M : rM) : Option (Int32 × rM) := zbd (m12_in x1 (1 : Int32) (8 : Int32) M) (fun r1 M1 => (if r1 = 0 then some ((-3 : Int32), M1) else (if (rg M1 12 0 0) = 0 then some ((-4 : Int32), M1) else m12_program_44 zfu x1 x2 (0 : Int32) (0 : Int32) (rs (rs M1 12 0 60 x1) 12 0 59 ((rg (rs M1 12 0 60 x1) 12 0 59) + (1 : Int32))))))
theorem m12_program_ok {X : zX} {G : zG} (Hy : zHy X G q12_program zcR 1 22 (some .int)) {r : Int32} {M' : rM} (hE : zEnd X G (some (.inl r)) (zfR M')) (x1 : Int32) (x2 : Int64) (M : rM) (h : m12_program x1 x2 M = some (r, M')) : zGo (X, q12_program, G) 0 0 (0, [(0, .inr (.inr (some (12, 0)))), (1, .inl x1), (2, .inr (.inl x2))], [], zfR M) := by
  unfold m12_program at h
  refine zblq Hy.1 Hy.2.1 [(.iload 1, 1), (.iconst 1, 1), (.iconst 8, 2)] (S' := (4, [(0, .inr (.inr (some (12, 0)))), (1, .inl x1), (2, .inr (.inl x2))], [.inl (8 : Int32), .inl (1 : Int32), .inl x1], zfR M)) (b := true) (by decide +kernel) rfl rfl ?_
  obtain ⟨r1, M1, hc1, h⟩ := zbd_inv h
  refine zcallS Hy.1 (as := [.inl x1, .inl (1 : Int32), .inl (8 : Int32)]) (st := []) (m12_in_met (zOK_G Hy.1) Hy.2.1 hc1) cw12_171 m12_in_in rfl (zroom Hy.2.2 ⟨by decide, by decide⟩) rfl (by decide +kernel) ⟨Nat.zero_le _, Nat.zero_le _⟩ ?_
  refine zif_ne Hy.1 (off := 6) (tgt := 13) (by decide +kernel) (by decide) (fun hb9 => ?_) (fun hb9 => ?_)
  · replace h := zite_f h hb9
    refine zblq Hy.1 Hy.2.1 [(.aload 0, 1), (.multianewarray 12 0, 3)] (S' := (17, [(0, .inr (.inr (some (12, 0)))), (1, .inl x1), (2, .inr (.inl x2))], [.inl (rg M1 12 0 0)], zfR M1)) (b := true) (by decide +kernel) rfl rfl ?_
    refine zif_ne Hy.1 (off := 6) (tgt := 23) (by decide +kernel) (by decide) (fun hb8 => ?_) (fun hb8 => ?_)
    · replace h := zite_f h hb8
      refine zblq Hy.1 Hy.2.1 [(.aload 0, 1), (.iload 1, 1), (.invokeinterface 12 60, 3), (.aload 0, 1), (.dup, 1), (.multianewarray 12 59, 3), (.iconst 1, 1), (.iadd, 1), (.invokeinterface 12 59, 3), (.iconst 0, 1), (.istore 4, 2), (.iconst 0, 1), (.istore 5, 2)] (S' := (44, [(0, .inr (.inr (some (12, 0)))), (1, .inl x1), (2, .inr (.inl x2)), (4, .inl (0 : Int32)), (5, .inl (0 : Int32))], [], zfR (rs (rs M1 12 0 60 x1) 12 0 59 ((rg (rs M1 12 0 60 x1) 12 0 59) + (1 : Int32))))) (b := true) (by decide +kernel) rfl rfl ?_
      refine zGo_keep [0, 1, 2, 4, 5] rfl ?_
      exact m12_program_44_ok Hy hE zfu x1 x2 (0 : Int32) (0 : Int32) (rs (rs M1 12 0 60 x1) 12 0 59 ((rg (rs M1 12 0 60 x1) 12 0 59) + (1 : Int32))) h
    · replace h := zite_t h hb8
      refine zblq Hy.1 Hy.2.1 [(.iconst (-4), 2)] (S' := (22, [(0, .inr (.inr (some (12, 0)))), (1, .inl x1), (2, .inr (.inl x2))], [.inl (-4 : Int32)], zfR M1)) (b := true) (by decide +kernel) rfl rfl ?_
      cases h
      exact zret_i Hy.1 Hy.2.2 hE (by decide +kernel)
  · replace h := zite_t h hb9
    refine zblq Hy.1 Hy.2.1 [(.iconst (-3), 2)] (S' := (12, [(0, .inr (.inr (some (12, 0)))), (1, .inl x1), (2, .inr (.inl x2))], [.inl (-3 : Int32)], zfR M1)) (b := true) (by decide +kernel) rfl rfl ?_
    cases h
    exact zret_i Hy.1 Hy.2.2 hE (by decide +kernel)
theorem m12_program_met {l : Launch} {G : zG} (hG : zGok G) (hcn : zgcn G = zcR) {x1 : Int32} {x2 : Int64} {M : rM} {r : Int32} {M' : rM} (h : m12_program x1 x2 M = some (r, M')) : zMet l G yX12_program cX12_program 6 (some .int) 1 22 [.inr (.inr (some (12, 0))), .inl x1, .inr (.inl x2)] (zfR M) (some (.inl r)) (zfR M') :=
  zMet_of hG tbX12_ok rfl (by decide +kernel) (Nat.le_of_ble_eq_true rfl) (fun X _ Z hA hE => m12_program_ok ⟨Z, hcn, hA⟩ hE x1 x2 M h)
abbrev q12_partFor : ByteArray × Nat × String × zT := (cX12_partFor, 4, RX12, tbX12)
def m12_partFor_70 (k25 : Int32 → Int32 → Int32 → rM → Option (Int32 × rM)) (x1 : Int32) (x2 : Int32) (x3 : Int32) (M : rM) : Option (Int32 × rM) := k25 x1 x2 (x3 + (1 : Int32)) M
theorem m12_partFor_70_ok {X : zX} {G : zG} (Hy : zHy X G q12_partFor zcR 1 21 (some .int)) {r : Int32} {M' : rM} (hE : zEnd X G (some (.inl r)) (zfR M')) {k25 : Int32 → Int32 → Int32 → rM → Option (Int32 × rM)} (hk25 : ∀ (x1 : Int32) (x2 : Int32) (x3 : Int32) (M : rM), k25 x1 x2 x3 M = some (r, M') → zGo (X, q12_partFor, G) 0 0 (25, [(0, .inr (.inr (some (12, 0)))), (1, .inl x1), (2, .inl x2), (3, .inl x3)], [], zfR M)) (x1 : Int32) (x2 : Int32) (x3 : Int32) (M : rM) (h : m12_partFor_70 k25 x1 x2 x3 M = some (r, M')) : zGo (X, q12_partFor, G) 0 0 (70, [(0, .inr (.inr (some (12, 0)))), (1, .inl x1), (2, .inl x2), (3, .inl x3)], [], zfR M) := by
  unfold m12_partFor_70 at h
  refine zblq Hy.1 Hy.2.1 [(.iinc 3 1, 3), (.ldc 25, 3)] (S' := (25, [(0, .inr (.inr (some (12, 0)))), (1, .inl x1), (2, .inl x2), (3, .inl (x3 + (1 : Int32)))], [], zfR M)) (b := true) (by decide +kernel) rfl rfl ?_
  refine zGo_keep [0, 1, 2, 3] rfl ?_
  exact hk25 x1 x2 (x3 + (1 : Int32)) M h
def m12_partFor_25 : Nat → Int32 → Int32 → Int32 → rM → Option (Int32 × rM)
  | 0, _, _, _, _ => none
  | n + 1, x1, x2, x3, M => (if (rg M 12 0 0) ≤ x3 then some ((-1 : Int32), M) else zgd (zin x3 10 && true) ((if (rg M 1323 0 (nx x3)) = 0 then zgd (zin x1 10 && true) (zbd (m12_isIn (rg M 1307 0 (nx x1)) x3 M) (fun r5 M5 => (if r5 = 0 then m12_partFor_70 (m12_partFor_25 n) x1 x2 x3 M5 else zgd (zin x3 10 && true) (zbd (m12_isIn (rg M5 1363 0 (nx x3)) x2 M5) (fun r7 M7 => (if r7 = 0 then m12_partFor_70 (m12_partFor_25 n) x1 x2 x3 M7 else some (x3, M7))))))) else m12_partFor_70 (m12_partFor_25 n) x1 x2 x3 M)))
theorem m12_partFor_25_ok {X : zX} {G : zG} (Hy : zHy X G q12_partFor zcR 1 21 (some .int)) {r : Int32} {M' : rM} (hE : zEnd X G (some (.inl r)) (zfR M')) : ∀ (n : Nat) (x1 : Int32) (x2 : Int32) (x3 : Int32) (M : rM), m12_partFor_25 n x1 x2 x3 M = some (r, M') → zGo (X, q12_partFor, G) 0 0 (25, [(0, .inr (.inr (some (12, 0)))), (1, .inl x1), (2, .inl x2), (3, .inl x3)], [], zfR M) := by
  intro n
  induction n with
  | zero => intro x1 x2 x3 M h; cases h
  | succ n ih =>
    intro x1 x2 x3 M h
    unfold m12_partFor_25 at h
    refine zblq Hy.1 Hy.2.1 [(.iload 3, 1), (.aload 0, 1), (.multianewarray 12 0, 3)] (S' := (30, [(0, .inr (.inr (some (12, 0)))), (1, .inl x1), (2, .inl x2), (3, .inl x3)], [.inl (rg M 12 0 0), .inl x3], zfR M)) (b := true) (by decide +kernel) rfl rfl ?_
    refine zic_ge Hy.1 (off := 46) (tgt := 76) (by decide +kernel) (by decide) (fun hb11 => ?_) (fun hb11 => ?_)
    · replace h := zite_t h hb11
      refine zblq Hy.1 Hy.2.1 [(.iconst (-1), 1)] (S' := (77, [(0, .inr (.inr (some (12, 0)))), (1, .inl x1), (2, .inl x2), (3, .inl x3)], [.inl (-1 : Int32)], zfR M)) (b := true) (by decide +kernel) rfl rfl ?_
      cases h
      exact zret_i Hy.1 Hy.2.2 hE (by decide +kernel)
    · replace h := zite_f h hb11
      obtain ⟨hg3, h⟩ := zgd_inv h
      refine zblq Hy.1 Hy.2.1 [(.aload 0, 1), (.getfield 1223, 3), (.iload 3, 1), (.baload, 1)] (S' := (39, [(0, .inr (.inr (some (12, 0)))), (1, .inl x1), (2, .inl x2), (3, .inl x3)], [.inl (rg M 1323 0 (nx x3))], zfR M)) (b := zin x3 10 && true) (by decide +kernel) rfl hg3 ?_
      refine zif_ne Hy.1 (off := 31) (tgt := 70) (by decide +kernel) (by decide) (fun hb10 => ?_) (fun hb10 => ?_)
      · replace h := zite_f h hb10
        refine zGo_keep [0, 1, 2, 3] rfl ?_
        exact m12_partFor_70_ok Hy hE ih x1 x2 x3 M h
      · replace h := zite_t h hb10
        obtain ⟨hg4, h⟩ := zgd_inv h
        refine zblq Hy.1 Hy.2.1 [(.aload 0, 1), (.getfield 1207, 3), (.iload 1, 1), (.iaload, 1), (.iload 3, 1)] (S' := (49, [(0, .inr (.inr (some (12, 0)))), (1, .inl x1), (2, .inl x2), (3, .inl x3)], [.inl x3, .inl (rg M 1307 0 (nx x1))], zfR M)) (b := zin x1 10 && true) (by decide +kernel) rfl hg4 ?_
        obtain ⟨r5, M5, hc5, h⟩ := zbd_inv h
        refine zcallS Hy.1 (as := [.inl (rg M 1307 0 (nx x1)), .inl x3]) (st := []) (m12_isIn_met (zOK_G Hy.1) Hy.2.1 hc5) cw12_183 m12_isIn_in rfl (zroom Hy.2.2 ⟨by decide, by decide⟩) rfl (by decide +kernel) ⟨Nat.zero_le _, Nat.zero_le _⟩ ?_
        refine zif_eq Hy.1 (off := 18) (tgt := 70) (by decide +kernel) (by decide) (fun hb9 => ?_) (fun hb9 => ?_)
        · replace h := zite_t h hb9
          refine zGo_keep [0, 1, 2, 3] rfl ?_
          exact m12_partFor_70_ok Hy hE ih x1 x2 x3 M5 h
        · replace h := zite_f h hb9
          obtain ⟨hg6, h⟩ := zgd_inv h
          refine zblq Hy.1 Hy.2.1 [(.aload 0, 1), (.getfield 1263, 3), (.iload 3, 1), (.iaload, 1), (.iload 2, 1)] (S' := (62, [(0, .inr (.inr (some (12, 0)))), (1, .inl x1), (2, .inl x2), (3, .inl x3)], [.inl x2, .inl (rg M5 1363 0 (nx x3))], zfR M5)) (b := zin x3 10 && true) (by decide +kernel) rfl hg6 ?_
          obtain ⟨r7, M7, hc7, h⟩ := zbd_inv h
          refine zcallS Hy.1 (as := [.inl (rg M5 1363 0 (nx x3)), .inl x2]) (st := []) (m12_isIn_met (zOK_G Hy.1) Hy.2.1 hc7) cw12_183 m12_isIn_in rfl (zroom Hy.2.2 ⟨by decide, by decide⟩) rfl (by decide +kernel) ⟨Nat.zero_le _, Nat.zero_le _⟩ ?_
          refine zif_eq Hy.1 (off := 5) (tgt := 70) (by decide +kernel) (by decide) (fun hb8 => ?_) (fun hb8 => ?_)
          · replace h := zite_t h hb8
            refine zGo_keep [0, 1, 2, 3] rfl ?_
            exact m12_partFor_70_ok Hy hE ih x1 x2 x3 M7 h
          · replace h := zite_f h hb8
            refine zblq Hy.1 Hy.2.1 [(.iload 3, 1)] (S' := (69, [(0, .inr (.inr (some (12, 0)))), (1, .inl x1), (2, .inl x2), (3, .inl x3)], [.inl x3], zfR M7)) (b := true) (by decide +kernel) rfl rfl ?_
            cases h
            exact zret_i Hy.1 Hy.2.2 hE (by decide +kernel)
def m12_partFor (x1 : Int32) (x2 : Int32) (M : rM) : Option (Int32 × rM) := (if (rg M 12 0 60) ≤ x2 then some ((-1 : Int32), M) else zgd (zin x1 10 && true) (zbd (m12_isIn (rg M 1363 0 (nx x1)) x2 M) (fun r2 M2 => (if r2 = 0 then m12_partFor_25 zfu x1 x2 (0 : Int32) M2 else some ((-1 : Int32), M2)))))
theorem m12_partFor_ok {X : zX} {G : zG} (Hy : zHy X G q12_partFor zcR 1 21 (some .int)) {r : Int32} {M' : rM} (hE : zEnd X G (some (.inl r)) (zfR M')) (x1 : Int32) (x2 : Int32) (M : rM) (h : m12_partFor x1 x2 M = some (r, M')) : zGo (X, q12_partFor, G) 0 0 (0, [(0, .inr (.inr (some (12, 0)))), (1, .inl x1), (2, .inl x2)], [], zfR M) := by
  unfold m12_partFor at h
  refine zblq Hy.1 Hy.2.1 [(.iload 2, 1), (.aload 0, 1), (.multianewarray 12 60, 3)] (S' := (5, [(0, .inr (.inr (some (12, 0)))), (1, .inl x1), (2, .inl x2)], [.inl (rg M 12 0 60), .inl x2], zfR M)) (b := true) (by decide +kernel) rfl rfl ?_
  refine zic_ge Hy.1 (off := 16) (tgt := 21) (by decide +kernel) (by decide) (fun hb13 => ?_) (fun hb13 => ?_)
  · replace h := zite_t h hb13
    refine zblq Hy.1 Hy.2.1 [(.iconst (-1), 1)] (S' := (22, [(0, .inr (.inr (some (12, 0)))), (1, .inl x1), (2, .inl x2)], [.inl (-1 : Int32)], zfR M)) (b := true) (by decide +kernel) rfl rfl ?_
    cases h
    exact zret_i Hy.1 Hy.2.2 hE (by decide +kernel)
  · replace h := zite_f h hb13
    obtain ⟨hg1, h⟩ := zgd_inv h
    refine zblq Hy.1 Hy.2.1 [(.aload 0, 1), (.getfield 1263, 3), (.iload 1, 1), (.iaload, 1), (.iload 2, 1)] (S' := (15, [(0, .inr (.inr (some (12, 0)))), (1, .inl x1), (2, .inl x2)], [.inl x2, .inl (rg M 1363 0 (nx x1))], zfR M)) (b := zin x1 10 && true) (by decide +kernel) rfl hg1 ?_
    obtain ⟨r2, M2, hc2, h⟩ := zbd_inv h
    refine zcallS Hy.1 (as := [.inl (rg M 1363 0 (nx x1)), .inl x2]) (st := []) (m12_isIn_met (zOK_G Hy.1) Hy.2.1 hc2) cw12_183 m12_isIn_in rfl (zroom Hy.2.2 ⟨by decide, by decide⟩) rfl (by decide +kernel) ⟨Nat.zero_le _, Nat.zero_le _⟩ ?_
    refine zif_eq Hy.1 (off := 5) (tgt := 23) (by decide +kernel) (by decide) (fun hb12 => ?_) (fun hb12 => ?_)
    · replace h := zite_t h hb12
      refine zblq Hy.1 Hy.2.1 [(.iconst 0, 1), (.istore 3, 1)] (S' := (25, [(0, .inr (.inr (some (12, 0)))), (1, .inl x1), (2, .inl x2), (3, .inl (0 : Int32))], [], zfR M2)) (b := true) (by decide +kernel) rfl rfl ?_
      refine zGo_keep [0, 1, 2, 3] rfl ?_
      exact m12_partFor_25_ok Hy hE zfu x1 x2 (0 : Int32) M2 h
    · replace h := zite_f h hb12
      refine zblq Hy.1 Hy.2.1 [(.iconst (-1), 1)] (S' := (22, [(0, .inr (.inr (some (12, 0)))), (1, .inl x1), (2, .inl x2)], [.inl (-1 : Int32)], zfR M2)) (b := true) (by decide +kernel) rfl rfl ?_
      cases h
      exact zret_i Hy.1 Hy.2.2 hE (by decide +kernel)
theorem m12_partFor_met {l : Launch} {G : zG} (hG : zGok G) (hcn : zgcn G = zcR) {x1 : Int32} {x2 : Int32} {M : rM} {r : Int32} {M' : rM} (h : m12_partFor x1 x2 M = some (r, M')) : zMet l G yX12_partFor cX12_partFor 4 (some .int) 1 21 [.inr (.inr (some (12, 0))), .inl x1, .inl x2] (zfR M) (some (.inl r)) (zfR M') :=
  zMet_of hG tbX12_ok rfl (by decide +kernel) (Nat.le_of_ble_eq_true rfl) (fun X _ Z hA hE => m12_partFor_ok ⟨Z, hcn, hA⟩ hE x1 x2 M h)
abbrev q12_hand : ByteArray × Nat × String × zT := (cX12_hand, 6, RX12, tbX12)
def m12_hand_198 (k76 : Int32 → Int32 → rM → Option (Int32 × rM)) (x1 : Int32) (x2 : Int32) (M : rM) : Option (Int32 × rM) := k76 x1 (x2 + (1 : Int32)) M
theorem m12_hand_198_ok {X : zX} {G : zG} (Hy : zHy X G q12_hand zcR 2 44 (some .int)) {r : Int32} {M' : rM} (hE : zEnd X G (some (.inl r)) (zfR M')) {k76 : Int32 → Int32 → rM → Option (Int32 × rM)} (hk76 : ∀ (x1 : Int32) (x2 : Int32) (M : rM), k76 x1 x2 M = some (r, M') → zGo (X, q12_hand, G) 0 0 (76, [(0, .inr (.inr (some (12, 0)))), (1, .inl x1), (2, .inl x2)], [], zfR M)) (x1 : Int32) (x2 : Int32) (M : rM) (h : m12_hand_198 k76 x1 x2 M = some (r, M')) : zGo (X, q12_hand, G) 0 0 (198, [(0, .inr (.inr (some (12, 0)))), (1, .inl x1), (2, .inl x2)], [], zfR M) := by
  unfold m12_hand_198 at h
  refine zblq Hy.1 Hy.2.1 [(.iinc 2 1, 3), (.ldc 76, 3)] (S' := (76, [(0, .inr (.inr (some (12, 0)))), (1, .inl x1), (2, .inl (x2 + (1 : Int32)))], [], zfR M)) (b := true) (by decide +kernel) rfl rfl ?_
  refine zGo_keep [0, 1, 2] rfl ?_
  exact hk76 x1 (x2 + (1 : Int32)) M h
def m12_hand_192 (k76 : Int32 → Int32 → rM → Option (Int32 × rM)) (k94 : Int32 → Int32 → Int32 → Int32 → rM → Option (Int32 × rM)) (x1 : Int32) (x2 : Int32) (x3 : Int32) (x4 : Int32) (M : rM) : Option (Int32 × rM) := k94 x1 x2 x3 (x4 + (1 : Int32)) M
theorem m12_hand_192_ok {X : zX} {G : zG} (Hy : zHy X G q12_hand zcR 2 44 (some .int)) {r : Int32} {M' : rM} (hE : zEnd X G (some (.inl r)) (zfR M')) {k76 : Int32 → Int32 → rM → Option (Int32 × rM)} (hk76 : ∀ (x1 : Int32) (x2 : Int32) (M : rM), k76 x1 x2 M = some (r, M') → zGo (X, q12_hand, G) 0 0 (76, [(0, .inr (.inr (some (12, 0)))), (1, .inl x1), (2, .inl x2)], [], zfR M)) {k94 : Int32 → Int32 → Int32 → Int32 → rM → Option (Int32 × rM)} (hk94 : ∀ (x1 : Int32) (x2 : Int32) (x3 : Int32) (x4 : Int32) (M : rM), k94 x1 x2 x3 x4 M = some (r, M') → zGo (X, q12_hand, G) 0 0 (94, [(0, .inr (.inr (some (12, 0)))), (1, .inl x1), (2, .inl x2), (3, .inl x3), (4, .inl x4)], [], zfR M)) (x1 : Int32) (x2 : Int32) (x3 : Int32) (x4 : Int32) (M : rM) (h : m12_hand_192 k76 k94 x1 x2 x3 x4 M = some (r, M')) : zGo (X, q12_hand, G) 0 0 (192, [(0, .inr (.inr (some (12, 0)))), (1, .inl x1), (2, .inl x2), (3, .inl x3), (4, .inl x4)], [], zfR M) := by
  unfold m12_hand_192 at h
  refine zblq Hy.1 Hy.2.1 [(.iinc 4 1, 3), (.ldc 94, 3)] (S' := (94, [(0, .inr (.inr (some (12, 0)))), (1, .inl x1), (2, .inl x2), (3, .inl x3), (4, .inl (x4 + (1 : Int32)))], [], zfR M)) (b := true) (by decide +kernel) rfl rfl ?_
  refine zGo_keep [0, 1, 2, 3, 4] rfl ?_
  exact hk94 x1 x2 x3 (x4 + (1 : Int32)) M h
def m12_hand_94 (k76 : Int32 → Int32 → rM → Option (Int32 × rM)) : Nat → Int32 → Int32 → Int32 → Int32 → rM → Option (Int32 × rM)
  | 0, _, _, _, _, _ => none
  | n + 1, x1, x2, x3, x4, M => (if (rg M 12 0 60) ≤ x4 then m12_hand_198 k76 x1 x2 M else (if x3 = 0 then zbd (m12_partFor x2 x4 M) (fun r2 M2 => (if r2 = (-1 : Int32) then m12_hand_192 k76 (m12_hand_94 k76 n) x1 x2 x3 x4 M2 else zgd (zin x2 10 && (zin x2 10 && (zin (((8 : Int32) * r2) + x4) 80 && (zin (((8 : Int32) * x2) + x4) 80 && (zin (3 : Int32) 7 && true))))) (zbv (m12_spend x2 (rg (rs (rs M2 1362 0 (nx x2) ((rg M2 1362 0 (nx x2)) ||| (zshl (1 : Int32) x4))) 1364 0 (nx (((8 : Int32) * x2) + x4)) (rg (rs M2 1362 0 (nx x2) ((rg M2 1362 0 (nx x2)) ||| (zshl (1 : Int32) x4))) 1365 0 (nx (((8 : Int32) * r2) + x4)))) 1312 0 (nx (3 : Int32))) (rs (rs M2 1362 0 (nx x2) ((rg M2 1362 0 (nx x2)) ||| (zshl (1 : Int32) x4))) 1364 0 (nx (((8 : Int32) * x2) + x4)) (rg (rs M2 1362 0 (nx x2) ((rg M2 1362 0 (nx x2)) ||| (zshl (1 : Int32) x4))) 1365 0 (nx (((8 : Int32) * r2) + x4))))) (fun M4 => zgd (zin (2 : Int32) 7 && true) (zbv (m12_spend r2 (rg M4 1312 0 (nx (2 : Int32))) M4) (fun M6 => m12_hand_192 k76 (m12_hand_94 k76 n) (x1 + (1 : Int32)) x2 (1 : Int32) x4 M6)))))) else m12_hand_198 k76 x1 x2 M))
theorem m12_hand_94_ok {X : zX} {G : zG} (Hy : zHy X G q12_hand zcR 2 44 (some .int)) {r : Int32} {M' : rM} (hE : zEnd X G (some (.inl r)) (zfR M')) {k76 : Int32 → Int32 → rM → Option (Int32 × rM)} (hk76 : ∀ (x1 : Int32) (x2 : Int32) (M : rM), k76 x1 x2 M = some (r, M') → zGo (X, q12_hand, G) 0 0 (76, [(0, .inr (.inr (some (12, 0)))), (1, .inl x1), (2, .inl x2)], [], zfR M)) : ∀ (n : Nat) (x1 : Int32) (x2 : Int32) (x3 : Int32) (x4 : Int32) (M : rM), m12_hand_94 k76 n x1 x2 x3 x4 M = some (r, M') → zGo (X, q12_hand, G) 0 0 (94, [(0, .inr (.inr (some (12, 0)))), (1, .inl x1), (2, .inl x2), (3, .inl x3), (4, .inl x4)], [], zfR M) := by
  intro n
  induction n with
  | zero => intro x1 x2 x3 x4 M h; cases h
  | succ n ih =>
    intro x1 x2 x3 x4 M h
    unfold m12_hand_94 at h
    refine zblq Hy.1 Hy.2.1 [(.iload 4, 2), (.aload 0, 1), (.multianewarray 12 60, 3)] (S' := (100, [(0, .inr (.inr (some (12, 0)))), (1, .inl x1), (2, .inl x2), (3, .inl x3), (4, .inl x4)], [.inl (rg M 12 0 60), .inl x4], zfR M)) (b := true) (by decide +kernel) rfl rfl ?_
    refine zic_ge Hy.1 (off := 98) (tgt := 198) (by decide +kernel) (by decide) (fun hb9 => ?_) (fun hb9 => ?_)
    · replace h := zite_t h hb9
      refine zGo_keep [0, 1, 2] rfl ?_
      exact m12_hand_198_ok Hy hE hk76 x1 x2 M h
    · replace h := zite_f h hb9
      refine zblq Hy.1 Hy.2.1 [(.iload 3, 1)] (S' := (104, [(0, .inr (.inr (some (12, 0)))), (1, .inl x1), (2, .inl x2), (3, .inl x3), (4, .inl x4)], [.inl x3], zfR M)) (b := true) (by decide +kernel) rfl rfl ?_
      refine zif_ne Hy.1 (off := 94) (tgt := 198) (by decide +kernel) (by decide) (fun hb8 => ?_) (fun hb8 => ?_)
      · replace h := zite_f h hb8
        refine zGo_keep [0, 1, 2] rfl ?_
        exact m12_hand_198_ok Hy hE hk76 x1 x2 M h
      · replace h := zite_t h hb8
        refine zblq Hy.1 Hy.2.1 [(.aload 0, 1), (.iload 2, 1), (.iload 4, 2)] (S' := (111, [(0, .inr (.inr (some (12, 0)))), (1, .inl x1), (2, .inl x2), (3, .inl x3), (4, .inl x4)], [.inl x4, .inl x2, .inr (.inr (some (12, 0)))], zfR M)) (b := true) (by decide +kernel) rfl rfl ?_
        obtain ⟨r2, M2, hc2, h⟩ := zbd_inv h
        refine zcallV Hy.1 (as := [.inl x2, .inl x4]) (st := []) (m12_partFor_met (zOK_G Hy.1) Hy.2.1 hc2) cw12_407 m12_partFor_in m12_partFor_se (by decide) (zhlv Hy.2.1 rfl) rfl (zroom Hy.2.2 ⟨by decide, by decide⟩) rfl (by decide +kernel) ⟨Nat.zero_le _, Nat.zero_le _⟩ ?_
        refine zblq Hy.1 Hy.2.1 [(.istore 5, 2), (.iload 5, 2), (.iconst (-1), 1)] (S' := (119, [(0, .inr (.inr (some (12, 0)))), (1, .inl x1), (2, .inl x2), (3, .inl x3), (4, .inl x4), (5, .inl r2)], [.inl (-1 : Int32), .inl r2], zfR M2)) (b := true) (by decide +kernel) rfl rfl ?_
        refine zic_eq Hy.1 (off := 73) (tgt := 192) (by decide +kernel) (by decide) (fun hb7 => ?_) (fun hb7 => ?_)
        · replace h := zite_t h hb7
          refine zGo_keep [0, 1, 2, 3, 4] rfl ?_
          exact m12_hand_192_ok Hy hE hk76 ih x1 x2 x3 x4 M2 h
        · replace h := zite_f h hb7
          obtain ⟨hg3, h⟩ := zgd_inv h
          refine zblq Hy.1 Hy.2.1 [(.iconst 1, 1), (.istore 3, 1), (.aload 0, 1), (.getfield 1262, 3), (.iload 2, 1), (.aload 0, 1), (.getfield 1262, 3), (.iload 2, 1), (.iaload, 1), (.iconst 1, 1), (.iload 4, 2), (.ishl, 1), (.ior, 1), (.iastore, 1), (.aload 0, 1), (.getfield 1264, 3), (.iconst 8, 2), (.iload 2, 1), (.imul, 1), (.iload 4, 2), (.iadd, 1), (.aload 0, 1), (.getfield 1265, 3), (.iconst 8, 2), (.iload 5, 2), (.imul, 1), (.iload 4, 2), (.iadd, 1), (.iaload, 1), (.iastore, 1), (.aload 0, 1), (.iload 2, 1), (.aload 0, 1), (.getfield 1212, 3), (.iconst 3, 1), (.iaload, 1)] (S' := (174, [(0, .inr (.inr (some (12, 0)))), (1, .inl x1), (2, .inl x2), (3, .inl (1 : Int32)), (4, .inl x4), (5, .inl r2)], [.inl (rg (rs (rs M2 1362 0 (nx x2) ((rg M2 1362 0 (nx x2)) ||| (zshl (1 : Int32) x4))) 1364 0 (nx (((8 : Int32) * x2) + x4)) (rg (rs M2 1362 0 (nx x2) ((rg M2 1362 0 (nx x2)) ||| (zshl (1 : Int32) x4))) 1365 0 (nx (((8 : Int32) * r2) + x4)))) 1312 0 (nx (3 : Int32))), .inl x2, .inr (.inr (some (12, 0)))], zfR (rs (rs M2 1362 0 (nx x2) ((rg M2 1362 0 (nx x2)) ||| (zshl (1 : Int32) x4))) 1364 0 (nx (((8 : Int32) * x2) + x4)) (rg (rs M2 1362 0 (nx x2) ((rg M2 1362 0 (nx x2)) ||| (zshl (1 : Int32) x4))) 1365 0 (nx (((8 : Int32) * r2) + x4)))))) (b := zin x2 10 && (zin x2 10 && (zin (((8 : Int32) * r2) + x4) 80 && (zin (((8 : Int32) * x2) + x4) 80 && (zin (3 : Int32) 7 && true))))) (by decide +kernel) rfl hg3 ?_
          obtain ⟨M4, hc4, h⟩ := zbv_inv h
          refine zcallV Hy.1 (as := [.inl x2, .inl (rg (rs (rs M2 1362 0 (nx x2) ((rg M2 1362 0 (nx x2)) ||| (zshl (1 : Int32) x4))) 1364 0 (nx (((8 : Int32) * x2) + x4)) (rg (rs M2 1362 0 (nx x2) ((rg M2 1362 0 (nx x2)) ||| (zshl (1 : Int32) x4))) 1365 0 (nx (((8 : Int32) * r2) + x4)))) 1312 0 (nx (3 : Int32)))]) (st := []) (m12_spend_met (zOK_G Hy.1) Hy.2.1 hc4) cw12_225 m12_spend_in m12_spend_se (by decide) (zhlv Hy.2.1 rfl) rfl (zroom Hy.2.2 ⟨by decide, by decide⟩) rfl (by decide +kernel) ⟨Nat.zero_le _, Nat.zero_le _⟩ ?_
          obtain ⟨hg5, h⟩ := zgd_inv h
          refine zblq Hy.1 Hy.2.1 [(.aload 0, 1), (.iload 5, 2), (.aload 0, 1), (.getfield 1212, 3), (.iconst 2, 1), (.iaload, 1)] (S' := (186, [(0, .inr (.inr (some (12, 0)))), (1, .inl x1), (2, .inl x2), (3, .inl (1 : Int32)), (4, .inl x4), (5, .inl r2)], [.inl (rg M4 1312 0 (nx (2 : Int32))), .inl r2, .inr (.inr (some (12, 0)))], zfR M4)) (b := zin (2 : Int32) 7 && true) (by decide +kernel) rfl hg5 ?_
          obtain ⟨M6, hc6, h⟩ := zbv_inv h
          refine zcallV Hy.1 (as := [.inl r2, .inl (rg M4 1312 0 (nx (2 : Int32)))]) (st := []) (m12_spend_met (zOK_G Hy.1) Hy.2.1 hc6) cw12_225 m12_spend_in m12_spend_se (by decide) (zhlv Hy.2.1 rfl) rfl (zroom Hy.2.2 ⟨by decide, by decide⟩) rfl (by decide +kernel) ⟨Nat.zero_le _, Nat.zero_le _⟩ ?_
          refine zblq Hy.1 Hy.2.1 [(.iinc 1 1, 3)] (S' := (192, [(0, .inr (.inr (some (12, 0)))), (1, .inl (x1 + (1 : Int32))), (2, .inl x2), (3, .inl (1 : Int32)), (4, .inl x4), (5, .inl r2)], [], zfR M6)) (b := true) (by decide +kernel) rfl rfl ?_
          refine zGo_keep [0, 1, 2, 3, 4] rfl ?_
          exact m12_hand_192_ok Hy hE hk76 ih (x1 + (1 : Int32)) x2 (1 : Int32) x4 M6 h
def m12_hand_76 : Nat → Int32 → Int32 → rM → Option (Int32 × rM)
  | 0, _, _, _ => none
  | n + 1, x1, x2, M => (if (rg M 12 0 0) ≤ x2 then some (x1, M) else zgd (zin x2 10 && true) (m12_hand_94 (m12_hand_76 n) zfu x1 x2 (rg M 1323 0 (nx x2)) (0 : Int32) M))
theorem m12_hand_76_ok {X : zX} {G : zG} (Hy : zHy X G q12_hand zcR 2 44 (some .int)) {r : Int32} {M' : rM} (hE : zEnd X G (some (.inl r)) (zfR M')) : ∀ (n : Nat) (x1 : Int32) (x2 : Int32) (M : rM), m12_hand_76 n x1 x2 M = some (r, M') → zGo (X, q12_hand, G) 0 0 (76, [(0, .inr (.inr (some (12, 0)))), (1, .inl x1), (2, .inl x2)], [], zfR M) := by
  intro n
  induction n with
  | zero => intro x1 x2 M h; cases h
  | succ n ih =>
    intro x1 x2 M h
    unfold m12_hand_76 at h
    refine zblq Hy.1 Hy.2.1 [(.iload 2, 1), (.aload 0, 1), (.multianewarray 12 0, 3)] (S' := (81, [(0, .inr (.inr (some (12, 0)))), (1, .inl x1), (2, .inl x2)], [.inl (rg M 12 0 0), .inl x2], zfR M)) (b := true) (by decide +kernel) rfl rfl ?_
    refine zic_ge Hy.1 (off := 123) (tgt := 204) (by decide +kernel) (by decide) (fun hb10 => ?_) (fun hb10 => ?_)
    · replace h := zite_t h hb10
      refine zblq Hy.1 Hy.2.1 [(.iload 1, 1)] (S' := (205, [(0, .inr (.inr (some (12, 0)))), (1, .inl x1), (2, .inl x2)], [.inl x1], zfR M)) (b := true) (by decide +kernel) rfl rfl ?_
      cases h
      exact zret_i Hy.1 Hy.2.2 hE (by decide +kernel)
    · replace h := zite_f h hb10
      obtain ⟨hg1, h⟩ := zgd_inv h
      refine zblq Hy.1 Hy.2.1 [(.aload 0, 1), (.getfield 1223, 3), (.iload 2, 1), (.baload, 1), (.istore 3, 1), (.iconst 0, 1), (.istore 4, 2)] (S' := (94, [(0, .inr (.inr (some (12, 0)))), (1, .inl x1), (2, .inl x2), (3, .inl (rg M 1323 0 (nx x2))), (4, .inl (0 : Int32))], [], zfR M)) (b := zin x2 10 && true) (by decide +kernel) rfl hg1 ?_
      refine zGo_keep [0, 1, 2, 3, 4] rfl ?_
      exact m12_hand_94_ok Hy hE ih zfu x1 x2 (rg M 1323 0 (nx x2)) (0 : Int32) M h
def m12_hand_48 : Nat → Int32 → rM → Option (Int32 × rM)
  | 0, _, _ => none
  | n + 1, x1, M => (if (80 : Int32) ≤ x1 then m12_hand_76 zfu (0 : Int32) (1 : Int32) M else zgd (zin x1 80 && (zin x1 80 && true)) ((m12_hand_48 n) (x1 + (1 : Int32)) (rs M 1365 0 (nx x1) (rg M 1364 0 (nx x1)))))
theorem m12_hand_48_ok {X : zX} {G : zG} (Hy : zHy X G q12_hand zcR 2 44 (some .int)) {r : Int32} {M' : rM} (hE : zEnd X G (some (.inl r)) (zfR M')) : ∀ (n : Nat) (x1 : Int32) (M : rM), m12_hand_48 n x1 M = some (r, M') → zGo (X, q12_hand, G) 0 0 (48, [(0, .inr (.inr (some (12, 0)))), (1, .inl x1)], [], zfR M) := by
  intro n
  induction n with
  | zero => intro x1 M h; cases h
  | succ n ih =>
    intro x1 M h
    unfold m12_hand_48 at h
    refine zblq Hy.1 Hy.2.1 [(.iload 1, 1), (.iconst 80, 2)] (S' := (51, [(0, .inr (.inr (some (12, 0)))), (1, .inl x1)], [.inl (80 : Int32), .inl x1], zfR M)) (b := true) (by decide +kernel) rfl rfl ?_
    refine zic_ge Hy.1 (off := 21) (tgt := 72) (by decide +kernel) (by decide) (fun hb12 => ?_) (fun hb12 => ?_)
    · replace h := zite_t h hb12
      refine zblq Hy.1 Hy.2.1 [(.iconst 0, 1), (.istore 1, 1), (.iconst 1, 1), (.istore 2, 1)] (S' := (76, [(0, .inr (.inr (some (12, 0)))), (1, .inl (0 : Int32)), (2, .inl (1 : Int32))], [], zfR M)) (b := true) (by decide +kernel) rfl rfl ?_
      refine zGo_keep [0, 1, 2] rfl ?_
      exact m12_hand_76_ok Hy hE zfu (0 : Int32) (1 : Int32) M h
    · replace h := zite_f h hb12
      obtain ⟨hg11, h⟩ := zgd_inv h
      refine zblq Hy.1 Hy.2.1 [(.aload 0, 1), (.getfield 1265, 3), (.iload 1, 1), (.aload 0, 1), (.getfield 1264, 3), (.iload 1, 1), (.iaload, 1), (.iastore, 1), (.iinc 1 1, 3), (.ldc 48, 3)] (S' := (48, [(0, .inr (.inr (some (12, 0)))), (1, .inl (x1 + (1 : Int32)))], [], zfR (rs M 1365 0 (nx x1) (rg M 1364 0 (nx x1))))) (b := zin x1 80 && (zin x1 80 && true)) (by decide +kernel) rfl hg11 ?_
      refine zGo_keep [0, 1] rfl ?_
      exact ih (x1 + (1 : Int32)) (rs M 1365 0 (nx x1) (rg M 1364 0 (nx x1))) h
def m12_hand_39 (k2 : Int32 → rM → Option (Int32 × rM)) (x1 : Int32) (t1 : Int32) (t2 : Int32) (M : rM) : Option (Int32 × rM) := zgd (zin t1 10 && true) (k2 (x1 + (1 : Int32)) (rs M 1323 0 (nx t1) (vp_nar .boolean t2)))
theorem m12_hand_39_ok {X : zX} {G : zG} (Hy : zHy X G q12_hand zcR 2 44 (some .int)) {r : Int32} {M' : rM} (hE : zEnd X G (some (.inl r)) (zfR M')) {k2 : Int32 → rM → Option (Int32 × rM)} (hk2 : ∀ (x1 : Int32) (M : rM), k2 x1 M = some (r, M') → zGo (X, q12_hand, G) 0 0 (2, [(0, .inr (.inr (some (12, 0)))), (1, .inl x1)], [], zfR M)) (x1 : Int32) (t1 : Int32) (t2 : Int32) (M : rM) (h : m12_hand_39 k2 x1 t1 t2 M = some (r, M')) : zGo (X, q12_hand, G) 0 0 (39, [(0, .inr (.inr (some (12, 0)))), (1, .inl x1)], [.inl t2, .inl t1, .inr (.inr (some (1323, 0)))], zfR M) := by
  unfold m12_hand_39 at h
  obtain ⟨hg14, h⟩ := zgd_inv h
  refine zblq Hy.1 Hy.2.1 [(.bastore, 1), (.iinc 1 1, 3), (.ldc 2, 3)] (S' := (2, [(0, .inr (.inr (some (12, 0)))), (1, .inl (x1 + (1 : Int32)))], [], zfR (rs M 1323 0 (nx t1) (vp_nar .boolean t2)))) (b := zin t1 10 && true) (by decide +kernel) rfl hg14 ?_
  refine zGo_keep [0, 1] rfl ?_
  exact hk2 (x1 + (1 : Int32)) (rs M 1323 0 (nx t1) (vp_nar .boolean t2)) h
def m12_hand_2 : Nat → Int32 → rM → Option (Int32 × rM)
  | 0, _, _ => none
  | n + 1, x1, M => (if (10 : Int32) ≤ x1 then m12_hand_48 zfu (0 : Int32) M else zgd (zin x1 10 && (zin x1 10 && (zin x1 10 && true))) ((if (rg (rs M 1363 0 (nx x1) (rg M 1362 0 (nx x1))) 1302 0 (nx x1)) = 0 then m12_hand_39 (m12_hand_2 n) x1 x1 (1 : Int32) (rs M 1363 0 (nx x1) (rg M 1362 0 (nx x1))) else m12_hand_39 (m12_hand_2 n) x1 x1 (0 : Int32) (rs M 1363 0 (nx x1) (rg M 1362 0 (nx x1))))))
theorem m12_hand_2_ok {X : zX} {G : zG} (Hy : zHy X G q12_hand zcR 2 44 (some .int)) {r : Int32} {M' : rM} (hE : zEnd X G (some (.inl r)) (zfR M')) : ∀ (n : Nat) (x1 : Int32) (M : rM), m12_hand_2 n x1 M = some (r, M') → zGo (X, q12_hand, G) 0 0 (2, [(0, .inr (.inr (some (12, 0)))), (1, .inl x1)], [], zfR M) := by
  intro n
  induction n with
  | zero => intro x1 M h; cases h
  | succ n ih =>
    intro x1 M h
    unfold m12_hand_2 at h
    refine zblq Hy.1 Hy.2.1 [(.iload 1, 1), (.iconst 10, 2)] (S' := (5, [(0, .inr (.inr (some (12, 0)))), (1, .inl x1)], [.inl (10 : Int32), .inl x1], zfR M)) (b := true) (by decide +kernel) rfl rfl ?_
    refine zic_ge Hy.1 (off := 41) (tgt := 46) (by decide +kernel) (by decide) (fun hb16 => ?_) (fun hb16 => ?_)
    · replace h := zite_t h hb16
      refine zblq Hy.1 Hy.2.1 [(.iconst 0, 1), (.istore 1, 1)] (S' := (48, [(0, .inr (.inr (some (12, 0)))), (1, .inl (0 : Int32))], [], zfR M)) (b := true) (by decide +kernel) rfl rfl ?_
      refine zGo_keep [0, 1] rfl ?_
      exact m12_hand_48_ok Hy hE zfu (0 : Int32) M h
    · replace h := zite_f h hb16
      obtain ⟨hg13, h⟩ := zgd_inv h
      refine zblq Hy.1 Hy.2.1 [(.aload 0, 1), (.getfield 1263, 3), (.iload 1, 1), (.aload 0, 1), (.getfield 1262, 3), (.iload 1, 1), (.iaload, 1), (.iastore, 1), (.aload 0, 1), (.getfield 1223, 3), (.iload 1, 1), (.aload 0, 1), (.getfield 1202, 3), (.iload 1, 1), (.iaload, 1)] (S' := (31, [(0, .inr (.inr (some (12, 0)))), (1, .inl x1)], [.inl (rg (rs M 1363 0 (nx x1) (rg M 1362 0 (nx x1))) 1302 0 (nx x1)), .inl x1, .inr (.inr (some (1323, 0)))], zfR (rs M 1363 0 (nx x1) (rg M 1362 0 (nx x1))))) (b := zin x1 10 && (zin x1 10 && (zin x1 10 && true))) (by decide +kernel) rfl hg13 ?_
      refine zif_ne Hy.1 (off := 7) (tgt := 38) (by decide +kernel) (by decide) (fun hb15 => ?_) (fun hb15 => ?_)
      · replace h := zite_f h hb15
        refine zblq Hy.1 Hy.2.1 [(.iconst 0, 1)] (S' := (39, [(0, .inr (.inr (some (12, 0)))), (1, .inl x1)], [.inl (0 : Int32), .inl x1, .inr (.inr (some (1323, 0)))], zfR (rs M 1363 0 (nx x1) (rg M 1362 0 (nx x1))))) (b := true) (by decide +kernel) rfl rfl ?_
        refine zGo_keep [0, 1] rfl ?_
        exact m12_hand_39_ok Hy hE ih x1 x1 (0 : Int32) (rs M 1363 0 (nx x1) (rg M 1362 0 (nx x1))) h
      · replace h := zite_t h hb15
        refine zblq Hy.1 Hy.2.1 [(.iconst 1, 1), (.ldc 39, 3)] (S' := (39, [(0, .inr (.inr (some (12, 0)))), (1, .inl x1)], [.inl (1 : Int32), .inl x1, .inr (.inr (some (1323, 0)))], zfR (rs M 1363 0 (nx x1) (rg M 1362 0 (nx x1))))) (b := true) (by decide +kernel) rfl rfl ?_
        refine zGo_keep [0, 1] rfl ?_
        exact m12_hand_39_ok Hy hE ih x1 x1 (1 : Int32) (rs M 1363 0 (nx x1) (rg M 1362 0 (nx x1))) h
def m12_hand  (M : rM) : Option (Int32 × rM) := m12_hand_2 zfu (0 : Int32) M
theorem m12_hand_ok {X : zX} {G : zG} (Hy : zHy X G q12_hand zcR 2 44 (some .int)) {r : Int32} {M' : rM} (hE : zEnd X G (some (.inl r)) (zfR M'))  (M : rM) (h : m12_hand M = some (r, M')) : zGo (X, q12_hand, G) 0 0 (0, [(0, .inr (.inr (some (12, 0))))], [], zfR M) := by
  unfold m12_hand at h
  refine zblq Hy.1 Hy.2.1 [(.iconst 0, 1), (.istore 1, 1)] (S' := (2, [(0, .inr (.inr (some (12, 0)))), (1, .inl (0 : Int32))], [], zfR M)) (b := true) (by decide +kernel) rfl rfl ?_
  refine zGo_keep [0, 1] rfl ?_
  exact m12_hand_2_ok Hy hE zfu (0 : Int32) M h
theorem m12_hand_met {l : Launch} {G : zG} (hG : zGok G) (hcn : zgcn G = zcR)  {M : rM} {r : Int32} {M' : rM} (h : m12_hand M = some (r, M')) : zMet l G yX12_hand cX12_hand 6 (some .int) 2 44 [.inr (.inr (some (12, 0)))] (zfR M) (some (.inl r)) (zfR M') :=
  zMet_of hG tbX12_ok rfl (by decide +kernel) (Nat.le_of_ble_eq_true rfl) (fun X _ Z hA hE => m12_hand_ok ⟨Z, hcn, hA⟩ hE M h)
abbrev q12_tear : ByteArray × Nat × String × zT := (cX12_tear, 5, RX12, tbX12)
def m12_tear (x1 : Int32) (x2 : Int32) (x3 : Int32) (M : rM) : Option (Int32 × rM) := zbd (m12_isBox x1 M) (fun r1 M1 => (if r1 = 0 then some ((-2 : Int32), M1) else (if x1 = 0 then some ((-2 : Int32), M1) else zbd (m12_in x2 (0 : Int32) ((rg M1 12 0 60) - (1 : Int32)) M1) (fun r2 M2 => (if r2 = 0 then some ((-2 : Int32), M2) else zbd (m12_in x3 (0 : Int32) (255 : Int32) M2) (fun r3 M3 => (if r3 = 0 then some ((-3 : Int32), M3) else zgd (zin x1 10 && true) (zbd (m12_isIn (rg M3 1362 0 (nx x1)) x2 M3) (fun r5 M5 => (if r5 = 0 then some ((-4 : Int32), M5) else zgd (zin (((8 : Int32) * x1) + x2) 80 && (zin (((8 : Int32) * x1) + x2) 80 && true)) (some (rg M5 1364 0 (nx (((8 : Int32) * x1) + x2)), rs M5 1364 0 (nx (((8 : Int32) * x1) + x2)) x3))))))))))))
theorem m12_tear_ok {X : zX} {G : zG} (Hy : zHy X G q12_tear zcR 2 43 (some .int)) {r : Int32} {M' : rM} (hE : zEnd X G (some (.inl r)) (zfR M')) (x1 : Int32) (x2 : Int32) (x3 : Int32) (M : rM) (h : m12_tear x1 x2 x3 M = some (r, M')) : zGo (X, q12_tear, G) 0 0 (0, [(0, .inr (.inr (some (12, 0)))), (1, .inl x1), (2, .inl x2), (3, .inl x3)], [], zfR M) := by
  unfold m12_tear at h
  refine zblq Hy.1 Hy.2.1 [(.aload 0, 1), (.iload 1, 1)] (S' := (2, [(0, .inr (.inr (some (12, 0)))), (1, .inl x1), (2, .inl x2), (3, .inl x3)], [.inl x1, .inr (.inr (some (12, 0)))], zfR M)) (b := true) (by decide +kernel) rfl rfl ?_
  obtain ⟨r1, M1, hc1, h⟩ := zbd_inv h
  refine zcallV Hy.1 (as := [.inl x1]) (st := []) (m12_isBox_met (zOK_G Hy.1) Hy.2.1 hc1) cw12_175 m12_isBox_in m12_isBox_se (by decide) (zhlv Hy.2.1 rfl) rfl (zroom Hy.2.2 ⟨by decide, by decide⟩) rfl (by decide +kernel) ⟨Nat.zero_le _, Nat.zero_le _⟩ ?_
  refine zif_eq Hy.1 (off := 21) (tgt := 26) (by decide +kernel) (by decide) (fun hb11 => ?_) (fun hb11 => ?_)
  · replace h := zite_t h hb11
    refine zblq Hy.1 Hy.2.1 [(.iconst (-2), 2)] (S' := (28, [(0, .inr (.inr (some (12, 0)))), (1, .inl x1), (2, .inl x2), (3, .inl x3)], [.inl (-2 : Int32)], zfR M1)) (b := true) (by decide +kernel) rfl rfl ?_
    cases h
    exact zret_i Hy.1 Hy.2.2 hE (by decide +kernel)
  · replace h := zite_f h hb11
    refine zblq Hy.1 Hy.2.1 [(.iload 1, 1)] (S' := (9, [(0, .inr (.inr (some (12, 0)))), (1, .inl x1), (2, .inl x2), (3, .inl x3)], [.inl x1], zfR M1)) (b := true) (by decide +kernel) rfl rfl ?_
    refine zif_eq Hy.1 (off := 17) (tgt := 26) (by decide +kernel) (by decide) (fun hb10 => ?_) (fun hb10 => ?_)
    · replace h := zite_t h hb10
      refine zblq Hy.1 Hy.2.1 [(.iconst (-2), 2)] (S' := (28, [(0, .inr (.inr (some (12, 0)))), (1, .inl x1), (2, .inl x2), (3, .inl x3)], [.inl (-2 : Int32)], zfR M1)) (b := true) (by decide +kernel) rfl rfl ?_
      cases h
      exact zret_i Hy.1 Hy.2.2 hE (by decide +kernel)
    · replace h := zite_f h hb10
      refine zblq Hy.1 Hy.2.1 [(.iload 2, 1), (.iconst 0, 1), (.aload 0, 1), (.multianewarray 12 60, 3), (.iconst 1, 1), (.isub, 1)] (S' := (20, [(0, .inr (.inr (some (12, 0)))), (1, .inl x1), (2, .inl x2), (3, .inl x3)], [.inl ((rg M1 12 0 60) - (1 : Int32)), .inl (0 : Int32), .inl x2], zfR M1)) (b := true) (by decide +kernel) rfl rfl ?_
      obtain ⟨r2, M2, hc2, h⟩ := zbd_inv h
      refine zcallS Hy.1 (as := [.inl x2, .inl (0 : Int32), .inl ((rg M1 12 0 60) - (1 : Int32))]) (st := []) (m12_in_met (zOK_G Hy.1) Hy.2.1 hc2) cw12_171 m12_in_in rfl (zroom Hy.2.2 ⟨by decide, by decide⟩) rfl (by decide +kernel) ⟨Nat.zero_le _, Nat.zero_le _⟩ ?_
      refine zif_ne Hy.1 (off := 6) (tgt := 29) (by decide +kernel) (by decide) (fun hb9 => ?_) (fun hb9 => ?_)
      · replace h := zite_f h hb9
        refine zblq Hy.1 Hy.2.1 [(.iload 3, 1), (.iconst 0, 1), (.iconst 255, 3)] (S' := (34, [(0, .inr (.inr (some (12, 0)))), (1, .inl x1), (2, .inl x2), (3, .inl x3)], [.inl (255 : Int32), .inl (0 : Int32), .inl x3], zfR M2)) (b := true) (by decide +kernel) rfl rfl ?_
        obtain ⟨r3, M3, hc3, h⟩ := zbd_inv h
        refine zcallS Hy.1 (as := [.inl x3, .inl (0 : Int32), .inl (255 : Int32)]) (st := []) (m12_in_met (zOK_G Hy.1) Hy.2.1 hc3) cw12_171 m12_in_in rfl (zroom Hy.2.2 ⟨by decide, by decide⟩) rfl (by decide +kernel) ⟨Nat.zero_le _, Nat.zero_le _⟩ ?_
        refine zif_ne Hy.1 (off := 6) (tgt := 43) (by decide +kernel) (by decide) (fun hb8 => ?_) (fun hb8 => ?_)
        · replace h := zite_f h hb8
          obtain ⟨hg4, h⟩ := zgd_inv h
          refine zblq Hy.1 Hy.2.1 [(.aload 0, 1), (.getfield 1262, 3), (.iload 1, 1), (.iaload, 1), (.iload 2, 1)] (S' := (50, [(0, .inr (.inr (some (12, 0)))), (1, .inl x1), (2, .inl x2), (3, .inl x3)], [.inl x2, .inl (rg M3 1362 0 (nx x1))], zfR M3)) (b := zin x1 10 && true) (by decide +kernel) rfl hg4 ?_
          obtain ⟨r5, M5, hc5, h⟩ := zbd_inv h
          refine zcallS Hy.1 (as := [.inl (rg M3 1362 0 (nx x1)), .inl x2]) (st := []) (m12_isIn_met (zOK_G Hy.1) Hy.2.1 hc5) cw12_183 m12_isIn_in rfl (zroom Hy.2.2 ⟨by decide, by decide⟩) rfl (by decide +kernel) ⟨Nat.zero_le _, Nat.zero_le _⟩ ?_
          refine zif_ne Hy.1 (off := 6) (tgt := 59) (by decide +kernel) (by decide) (fun hb7 => ?_) (fun hb7 => ?_)
          · replace h := zite_f h hb7
            obtain ⟨hg6, h⟩ := zgd_inv h
            refine zblq Hy.1 Hy.2.1 [(.aload 0, 1), (.getfield 1264, 3), (.iconst 8, 2), (.iload 1, 1), (.imul, 1), (.iload 2, 1), (.iadd, 1), (.iaload, 1), (.istore 4, 2), (.aload 0, 1), (.getfield 1264, 3), (.iconst 8, 2), (.iload 1, 1), (.imul, 1), (.iload 2, 1), (.iadd, 1), (.iload 3, 1), (.iastore, 1), (.iload 4, 2)] (S' := (86, [(0, .inr (.inr (some (12, 0)))), (1, .inl x1), (2, .inl x2), (3, .inl x3), (4, .inl (rg M5 1364 0 (nx (((8 : Int32) * x1) + x2))))], [.inl (rg M5 1364 0 (nx (((8 : Int32) * x1) + x2)))], zfR (rs M5 1364 0 (nx (((8 : Int32) * x1) + x2)) x3))) (b := zin (((8 : Int32) * x1) + x2) 80 && (zin (((8 : Int32) * x1) + x2) 80 && true)) (by decide +kernel) rfl hg6 ?_
            cases h
            exact zret_i Hy.1 Hy.2.2 hE (by decide +kernel)
          · replace h := zite_t h hb7
            refine zblq Hy.1 Hy.2.1 [(.iconst (-4), 2)] (S' := (58, [(0, .inr (.inr (some (12, 0)))), (1, .inl x1), (2, .inl x2), (3, .inl x3)], [.inl (-4 : Int32)], zfR M5)) (b := true) (by decide +kernel) rfl rfl ?_
            cases h
            exact zret_i Hy.1 Hy.2.2 hE (by decide +kernel)
        · replace h := zite_t h hb8
          refine zblq Hy.1 Hy.2.1 [(.iconst (-3), 2)] (S' := (42, [(0, .inr (.inr (some (12, 0)))), (1, .inl x1), (2, .inl x2), (3, .inl x3)], [.inl (-3 : Int32)], zfR M3)) (b := true) (by decide +kernel) rfl rfl ?_
          cases h
          exact zret_i Hy.1 Hy.2.2 hE (by decide +kernel)
      · replace h := zite_t h hb9
        refine zblq Hy.1 Hy.2.1 [(.iconst (-2), 2)] (S' := (28, [(0, .inr (.inr (some (12, 0)))), (1, .inl x1), (2, .inl x2), (3, .inl x3)], [.inl (-2 : Int32)], zfR M2)) (b := true) (by decide +kernel) rfl rfl ?_
        cases h
        exact zret_i Hy.1 Hy.2.2 hE (by decide +kernel)
theorem m12_tear_met {l : Launch} {G : zG} (hG : zGok G) (hcn : zgcn G = zcR) {x1 : Int32} {x2 : Int32} {x3 : Int32} {M : rM} {r : Int32} {M' : rM} (h : m12_tear x1 x2 x3 M = some (r, M')) : zMet l G yX12_tear cX12_tear 5 (some .int) 2 43 [.inr (.inr (some (12, 0))), .inl x1, .inl x2, .inl x3] (zfR M) (some (.inl r)) (zfR M') :=
  zMet_of hG tbX12_ok rfl (by decide +kernel) (Nat.le_of_ble_eq_true rfl) (fun X _ Z hA hE => m12_tear_ok ⟨Z, hcn, hA⟩ hE x1 x2 x3 M h)
abbrev q12_isSound : ByteArray × Nat × String × zT := (cX12_isSound, 4, RX12, tbX12)
def m12_isSound_4 : Nat → Int32 → Int32 → Int32 → rM → Option (Int32 × rM)
  | 0, _, _, _, _ => none
  | n + 1, x1, x2, x3, M => (if (rg M 12 0 60) ≤ x3 then (if (rg M 12 0 60) ≤ 0 then some ((0 : Int32), M) else zgd (zin x1 10 && true) ((if (rg M 1362 0 (nx x1)) = ((zshl (1 : Int32) (rg M 12 0 60)) - (1 : Int32)) then zgd (znz (251 : Int32) && true) ((if (zrem x2 (251 : Int32)) = (rg M 12 0 61) then some ((1 : Int32), M) else some ((0 : Int32), M))) else some ((0 : Int32), M)))) else zgd (zin (((8 : Int32) * x1) + x3) 80 && true) ((m12_isSound_4 n) x1 (x2 + (rg M 1364 0 (nx (((8 : Int32) * x1) + x3)))) (x3 + (1 : Int32)) M))
theorem m12_isSound_4_ok {X : zX} {G : zG} (Hy : zHy X G q12_isSound zcR 0 0 (some .boolean)) {r : Int32} {M' : rM} (hE : zEnd X G (some (.inl r)) (zfR M')) : ∀ (n : Nat) (x1 : Int32) (x2 : Int32) (x3 : Int32) (M : rM), m12_isSound_4 n x1 x2 x3 M = some (r, M') → zGo (X, q12_isSound, G) 0 0 (4, [(0, .inr (.inr (some (12, 0)))), (1, .inl x1), (2, .inl x2), (3, .inl x3)], [], zfR M) := by
  intro n
  induction n with
  | zero => intro x1 x2 x3 M h; cases h
  | succ n ih =>
    intro x1 x2 x3 M h
    unfold m12_isSound_4 at h
    refine zblq Hy.1 Hy.2.1 [(.iload 3, 1), (.aload 0, 1), (.multianewarray 12 60, 3)] (S' := (9, [(0, .inr (.inr (some (12, 0)))), (1, .inl x1), (2, .inl x2), (3, .inl x3)], [.inl (rg M 12 0 60), .inl x3], zfR M)) (b := true) (by decide +kernel) rfl rfl ?_
    refine zic_ge Hy.1 (off := 23) (tgt := 32) (by decide +kernel) (by decide) (fun hb7 => ?_) (fun hb7 => ?_)
    · replace h := zite_t h hb7
      refine zblq Hy.1 Hy.2.1 [(.aload 0, 1), (.multianewarray 12 60, 3)] (S' := (36, [(0, .inr (.inr (some (12, 0)))), (1, .inl x1), (2, .inl x2), (3, .inl x3)], [.inl (rg M 12 0 60)], zfR M)) (b := true) (by decide +kernel) rfl rfl ?_
      refine zif_le Hy.1 (off := 36) (tgt := 72) (by decide +kernel) (by decide) (fun hb5 => ?_) (fun hb5 => ?_)
      · replace h := zite_t h hb5
        refine zblq Hy.1 Hy.2.1 [(.iconst 0, 1)] (S' := (73, [(0, .inr (.inr (some (12, 0)))), (1, .inl x1), (2, .inl x2), (3, .inl x3)], [.inl (0 : Int32)], zfR M)) (b := true) (by decide +kernel) rfl rfl ?_
        cases h
        exact zret_z Hy.1 Hy.2.2 (by decide) hE (by decide +kernel)
      · replace h := zite_f h hb5
        obtain ⟨hg1, h⟩ := zgd_inv h
        refine zblq Hy.1 Hy.2.1 [(.aload 0, 1), (.getfield 1262, 3), (.iload 1, 1), (.iaload, 1), (.iconst 1, 1), (.aload 0, 1), (.multianewarray 12 60, 3), (.ishl, 1), (.iconst 1, 1), (.isub, 1)] (S' := (53, [(0, .inr (.inr (some (12, 0)))), (1, .inl x1), (2, .inl x2), (3, .inl x3)], [.inl ((zshl (1 : Int32) (rg M 12 0 60)) - (1 : Int32)), .inl (rg M 1362 0 (nx x1))], zfR M)) (b := zin x1 10 && true) (by decide +kernel) rfl hg1 ?_
        refine zic_ne Hy.1 (off := 19) (tgt := 72) (by decide +kernel) (by decide) (fun hb4 => ?_) (fun hb4 => ?_)
        · replace h := zite_f h hb4
          refine zblq Hy.1 Hy.2.1 [(.iconst 0, 1)] (S' := (73, [(0, .inr (.inr (some (12, 0)))), (1, .inl x1), (2, .inl x2), (3, .inl x3)], [.inl (0 : Int32)], zfR M)) (b := true) (by decide +kernel) rfl rfl ?_
          cases h
          exact zret_z Hy.1 Hy.2.2 (by decide) hE (by decide +kernel)
        · replace h := zite_t h hb4
          obtain ⟨hg2, h⟩ := zgd_inv h
          refine zblq Hy.1 Hy.2.1 [(.iload 2, 1), (.iconst 251, 3), (.irem, 1), (.aload 0, 1), (.multianewarray 12 61, 3)] (S' := (65, [(0, .inr (.inr (some (12, 0)))), (1, .inl x1), (2, .inl x2), (3, .inl x3)], [.inl (rg M 12 0 61), .inl (zrem x2 (251 : Int32))], zfR M)) (b := znz (251 : Int32) && true) (by decide +kernel) rfl hg2 ?_
          refine zic_ne Hy.1 (off := 7) (tgt := 72) (by decide +kernel) (by decide) (fun hb3 => ?_) (fun hb3 => ?_)
          · replace h := zite_f h hb3
            refine zblq Hy.1 Hy.2.1 [(.iconst 0, 1)] (S' := (73, [(0, .inr (.inr (some (12, 0)))), (1, .inl x1), (2, .inl x2), (3, .inl x3)], [.inl (0 : Int32)], zfR M)) (b := true) (by decide +kernel) rfl rfl ?_
            cases h
            exact zret_z Hy.1 Hy.2.2 (by decide) hE (by decide +kernel)
          · replace h := zite_t h hb3
            refine zblq Hy.1 Hy.2.1 [(.iconst 1, 1), (.ldc 73, 3)] (S' := (73, [(0, .inr (.inr (some (12, 0)))), (1, .inl x1), (2, .inl x2), (3, .inl x3)], [.inl (1 : Int32)], zfR M)) (b := true) (by decide +kernel) rfl rfl ?_
            cases h
            exact zret_z Hy.1 Hy.2.2 (by decide) hE (by decide +kernel)
    · replace h := zite_f h hb7
      obtain ⟨hg6, h⟩ := zgd_inv h
      refine zblq Hy.1 Hy.2.1 [(.iload 2, 1), (.aload 0, 1), (.getfield 1264, 3), (.iconst 8, 2), (.iload 1, 1), (.imul, 1), (.iload 3, 1), (.iadd, 1), (.iaload, 1), (.iadd, 1), (.istore 2, 1), (.iinc 3 1, 3), (.ldc 4, 3)] (S' := (4, [(0, .inr (.inr (some (12, 0)))), (1, .inl x1), (2, .inl (x2 + (rg M 1364 0 (nx (((8 : Int32) * x1) + x3))))), (3, .inl (x3 + (1 : Int32)))], [], zfR M)) (b := zin (((8 : Int32) * x1) + x3) 80 && true) (by decide +kernel) rfl hg6 ?_
      refine zGo_keep [0, 1, 2, 3] rfl ?_
      exact ih x1 (x2 + (rg M 1364 0 (nx (((8 : Int32) * x1) + x3)))) (x3 + (1 : Int32)) M h
def m12_isSound (x1 : Int32) (M : rM) : Option (Int32 × rM) := m12_isSound_4 zfu x1 (0 : Int32) (0 : Int32) M
theorem m12_isSound_ok {X : zX} {G : zG} (Hy : zHy X G q12_isSound zcR 0 0 (some .boolean)) {r : Int32} {M' : rM} (hE : zEnd X G (some (.inl r)) (zfR M')) (x1 : Int32) (M : rM) (h : m12_isSound x1 M = some (r, M')) : zGo (X, q12_isSound, G) 0 0 (0, [(0, .inr (.inr (some (12, 0)))), (1, .inl x1)], [], zfR M) := by
  unfold m12_isSound at h
  refine zblq Hy.1 Hy.2.1 [(.iconst 0, 1), (.istore 2, 1), (.iconst 0, 1), (.istore 3, 1)] (S' := (4, [(0, .inr (.inr (some (12, 0)))), (1, .inl x1), (2, .inl (0 : Int32)), (3, .inl (0 : Int32))], [], zfR M)) (b := true) (by decide +kernel) rfl rfl ?_
  refine zGo_keep [0, 1, 2, 3] rfl ?_
  exact m12_isSound_4_ok Hy hE zfu x1 (0 : Int32) (0 : Int32) M h
theorem m12_isSound_met {l : Launch} {G : zG} (hG : zGok G) (hcn : zgcn G = zcR) {x1 : Int32} {M : rM} {r : Int32} {M' : rM} (h : m12_isSound x1 M = some (r, M')) : zMet l G yX12_isSound cX12_isSound 4 (some .boolean) 0 0 [.inr (.inr (some (12, 0))), .inl x1] (zfR M) (some (.inl r)) (zfR M') :=
  zMet_of hG tbX12_ok rfl (by decide +kernel) (Nat.le_of_ble_eq_true rfl) (fun X _ Z hA hE => m12_isSound_ok ⟨Z, hcn, hA⟩ hE x1 M h)
abbrev q12_has : ByteArray × Nat × String × zT := (cX12_has, 3, RX12, tbX12)
def m12_has (x1 : Int32) (x2 : Int32) (M : rM) : Option (Int32 × rM) := zbd (m12_isBox x1 M) (fun r1 M1 => (if r1 = 0 then some ((-2 : Int32), M1) else (if x2 = 0 then zgd (zin x1 10 && true) (some (rg M1 1362 0 (nx x1), M1)) else (if x2 = (1 : Int32) then zbd (m12_isSound x1 M1) (fun r4 M4 => (if r4 = 0 then some ((0 : Int32), M4) else some ((1 : Int32), M4))) else (if x2 = (2 : Int32) then zgd (zin x1 10 && true) (some (rg M1 1366 0 (nx x1), M1)) else some ((-3 : Int32), M1))))))
theorem m12_has_ok {X : zX} {G : zG} (Hy : zHy X G q12_has zcR 2 43 (some .int)) {r : Int32} {M' : rM} (hE : zEnd X G (some (.inl r)) (zfR M')) (x1 : Int32) (x2 : Int32) (M : rM) (h : m12_has x1 x2 M = some (r, M')) : zGo (X, q12_has, G) 0 0 (0, [(0, .inr (.inr (some (12, 0)))), (1, .inl x1), (2, .inl x2)], [], zfR M) := by
  unfold m12_has at h
  refine zblq Hy.1 Hy.2.1 [(.aload 0, 1), (.iload 1, 1)] (S' := (2, [(0, .inr (.inr (some (12, 0)))), (1, .inl x1), (2, .inl x2)], [.inl x1, .inr (.inr (some (12, 0)))], zfR M)) (b := true) (by decide +kernel) rfl rfl ?_
  obtain ⟨r1, M1, hc1, h⟩ := zbd_inv h
  refine zcallV Hy.1 (as := [.inl x1]) (st := []) (m12_isBox_met (zOK_G Hy.1) Hy.2.1 hc1) cw12_175 m12_isBox_in m12_isBox_se (by decide) (zhlv Hy.2.1 rfl) rfl (zroom Hy.2.2 ⟨by decide, by decide⟩) rfl (by decide +kernel) ⟨Nat.zero_le _, Nat.zero_le _⟩ ?_
  refine zif_ne Hy.1 (off := 6) (tgt := 11) (by decide +kernel) (by decide) (fun hb9 => ?_) (fun hb9 => ?_)
  · replace h := zite_f h hb9
    refine zblq Hy.1 Hy.2.1 [(.iload 2, 1)] (S' := (12, [(0, .inr (.inr (some (12, 0)))), (1, .inl x1), (2, .inl x2)], [.inl x2], zfR M1)) (b := true) (by decide +kernel) rfl rfl ?_
    refine zif_ne Hy.1 (off := 12) (tgt := 24) (by decide +kernel) (by decide) (fun hb8 => ?_) (fun hb8 => ?_)
    · replace h := zite_f h hb8
      refine zblq Hy.1 Hy.2.1 [(.iload 2, 1), (.iconst 1, 1)] (S' := (26, [(0, .inr (.inr (some (12, 0)))), (1, .inl x1), (2, .inl x2)], [.inl (1 : Int32), .inl x2], zfR M1)) (b := true) (by decide +kernel) rfl rfl ?_
      refine zic_ne Hy.1 (off := 19) (tgt := 45) (by decide +kernel) (by decide) (fun hb6 => ?_) (fun hb6 => ?_)
      · replace h := zite_f h hb6
        refine zblq Hy.1 Hy.2.1 [(.iload 2, 1), (.iconst 2, 1)] (S' := (47, [(0, .inr (.inr (some (12, 0)))), (1, .inl x1), (2, .inl x2)], [.inl (2 : Int32), .inl x2], zfR M1)) (b := true) (by decide +kernel) rfl rfl ?_
        refine zic_ne Hy.1 (off := 12) (tgt := 59) (by decide +kernel) (by decide) (fun hb3 => ?_) (fun hb3 => ?_)
        · replace h := zite_f h hb3
          refine zblq Hy.1 Hy.2.1 [(.iconst (-3), 2)] (S' := (61, [(0, .inr (.inr (some (12, 0)))), (1, .inl x1), (2, .inl x2)], [.inl (-3 : Int32)], zfR M1)) (b := true) (by decide +kernel) rfl rfl ?_
          cases h
          exact zret_i Hy.1 Hy.2.2 hE (by decide +kernel)
        · replace h := zite_t h hb3
          obtain ⟨hg2, h⟩ := zgd_inv h
          refine zblq Hy.1 Hy.2.1 [(.aload 0, 1), (.getfield 1266, 3), (.iload 1, 1), (.iaload, 1), (.ldc 61, 3)] (S' := (61, [(0, .inr (.inr (some (12, 0)))), (1, .inl x1), (2, .inl x2)], [.inl (rg M1 1366 0 (nx x1))], zfR M1)) (b := zin x1 10 && true) (by decide +kernel) rfl hg2 ?_
          cases h
          exact zret_i Hy.1 Hy.2.2 hE (by decide +kernel)
      · replace h := zite_t h hb6
        refine zblq Hy.1 Hy.2.1 [(.aload 0, 1), (.iload 1, 1)] (S' := (31, [(0, .inr (.inr (some (12, 0)))), (1, .inl x1), (2, .inl x2)], [.inl x1, .inr (.inr (some (12, 0)))], zfR M1)) (b := true) (by decide +kernel) rfl rfl ?_
        obtain ⟨r4, M4, hc4, h⟩ := zbd_inv h
        refine zcallV Hy.1 (as := [.inl x1]) (st := []) (m12_isSound_met (zOK_G Hy.1) Hy.2.1 hc4) cw12_410 m12_isSound_in m12_isSound_se (by decide) (zhlv Hy.2.1 rfl) rfl (zroom Hy.2.2 ⟨by decide, by decide⟩) rfl (by decide +kernel) ⟨Nat.zero_le _, Nat.zero_le _⟩ ?_
        refine zif_eq Hy.1 (off := 7) (tgt := 41) (by decide +kernel) (by decide) (fun hb5 => ?_) (fun hb5 => ?_)
        · replace h := zite_t h hb5
          refine zblq Hy.1 Hy.2.1 [(.iconst 0, 1), (.ldc 61, 3)] (S' := (61, [(0, .inr (.inr (some (12, 0)))), (1, .inl x1), (2, .inl x2)], [.inl (0 : Int32)], zfR M4)) (b := true) (by decide +kernel) rfl rfl ?_
          cases h
          exact zret_i Hy.1 Hy.2.2 hE (by decide +kernel)
        · replace h := zite_f h hb5
          refine zblq Hy.1 Hy.2.1 [(.iconst 1, 1), (.ldc 61, 3)] (S' := (61, [(0, .inr (.inr (some (12, 0)))), (1, .inl x1), (2, .inl x2)], [.inl (1 : Int32)], zfR M4)) (b := true) (by decide +kernel) rfl rfl ?_
          cases h
          exact zret_i Hy.1 Hy.2.2 hE (by decide +kernel)
    · replace h := zite_t h hb8
      obtain ⟨hg7, h⟩ := zgd_inv h
      refine zblq Hy.1 Hy.2.1 [(.aload 0, 1), (.getfield 1262, 3), (.iload 1, 1), (.iaload, 1), (.ldc 61, 3)] (S' := (61, [(0, .inr (.inr (some (12, 0)))), (1, .inl x1), (2, .inl x2)], [.inl (rg M1 1362 0 (nx x1))], zfR M1)) (b := zin x1 10 && true) (by decide +kernel) rfl hg7 ?_
      cases h
      exact zret_i Hy.1 Hy.2.2 hE (by decide +kernel)
  · replace h := zite_t h hb9
    refine zblq Hy.1 Hy.2.1 [(.iconst (-2), 2)] (S' := (10, [(0, .inr (.inr (some (12, 0)))), (1, .inl x1), (2, .inl x2)], [.inl (-2 : Int32)], zfR M1)) (b := true) (by decide +kernel) rfl rfl ?_
    cases h
    exact zret_i Hy.1 Hy.2.2 hE (by decide +kernel)
theorem m12_has_met {l : Launch} {G : zG} (hG : zGok G) (hcn : zgcn G = zcR) {x1 : Int32} {x2 : Int32} {M : rM} {r : Int32} {M' : rM} (h : m12_has x1 x2 M = some (r, M')) : zMet l G yX12_has cX12_has 3 (some .int) 2 43 [.inr (.inr (some (12, 0))), .inl x1, .inl x2] (zfR M) (some (.inl r)) (zfR M') :=
  zMet_of hG tbX12_ok rfl (by decide +kernel) (Nat.le_of_ble_eq_true rfl) (fun X _ Z hA hE => m12_has_ok ⟨Z, hcn, hA⟩ hE x1 x2 M h)
abbrev q12_begin : ByteArray × Nat × String × zT := (cX12_begin, 5, RX12, tbX12)
def m12_begin_156 (x2 : Int32) (x3 : Int32) (M : rM) : Option (Int32 × rM) := (if x3 = 0 then some ((0 : Int32), M) else some (x2, M))
theorem m12_begin_156_ok {X : zX} {G : zG} (Hy : zHy X G q12_begin zcR 1 23 (some .int)) {r : Int32} {M' : rM} (hE : zEnd X G (some (.inl r)) (zfR M')) (x2 : Int32) (x3 : Int32) (M : rM) (h : m12_begin_156 x2 x3 M = some (r, M')) : zGo (X, q12_begin, G) 0 0 (156, [(2, .inl x2), (3, .inl x3)], [], zfR M) := by
  unfold m12_begin_156 at h
  refine zblq Hy.1 Hy.2.1 [(.iload 3, 1)] (S' := (157, [(2, .inl x2), (3, .inl x3)], [.inl x3], zfR M)) (b := true) (by decide +kernel) rfl rfl ?_
  refine zif_eq Hy.1 (off := 7) (tgt := 164) (by decide +kernel) (by decide) (fun hb2 => ?_) (fun hb2 => ?_)
  · replace h := zite_t h hb2
    refine zblq Hy.1 Hy.2.1 [(.iconst 0, 1)] (S' := (165, [(2, .inl x2), (3, .inl x3)], [.inl (0 : Int32)], zfR M)) (b := true) (by decide +kernel) rfl rfl ?_
    cases h
    exact zret_i Hy.1 Hy.2.2 hE (by decide +kernel)
  · replace h := zite_f h hb2
    refine zblq Hy.1 Hy.2.1 [(.iload 2, 1), (.ldc 165, 3)] (S' := (165, [(2, .inl x2), (3, .inl x3)], [.inl x2], zfR M)) (b := true) (by decide +kernel) rfl rfl ?_
    cases h
    exact zret_i Hy.1 Hy.2.2 hE (by decide +kernel)
def m12_begin_149 (k96 : Int32 → Int32 → Int32 → Int32 → rM → Option (Int32 × rM)) (x1 : Int32) (x2 : Int32) (x3 : Int32) (x4 : Int32) (t1 : Int32) (t2 : Int32) (M : rM) : Option (Int32 × rM) := zgd (zin t1 10 && true) (k96 x1 x2 x3 (x4 + (1 : Int32)) (rs M 1366 0 (nx t1) t2))
theorem m12_begin_149_ok {X : zX} {G : zG} (Hy : zHy X G q12_begin zcR 1 23 (some .int)) {r : Int32} {M' : rM} (hE : zEnd X G (some (.inl r)) (zfR M')) {k96 : Int32 → Int32 → Int32 → Int32 → rM → Option (Int32 × rM)} (hk96 : ∀ (x1 : Int32) (x2 : Int32) (x3 : Int32) (x4 : Int32) (M : rM), k96 x1 x2 x3 x4 M = some (r, M') → zGo (X, q12_begin, G) 0 0 (96, [(0, .inr (.inr (some (12, 0)))), (1, .inl x1), (2, .inl x2), (3, .inl x3), (4, .inl x4)], [], zfR M)) (x1 : Int32) (x2 : Int32) (x3 : Int32) (x4 : Int32) (t1 : Int32) (t2 : Int32) (M : rM) (h : m12_begin_149 k96 x1 x2 x3 x4 t1 t2 M = some (r, M')) : zGo (X, q12_begin, G) 0 0 (149, [(0, .inr (.inr (some (12, 0)))), (1, .inl x1), (2, .inl x2), (3, .inl x3), (4, .inl x4)], [.inl t2, .inl t1, .inr (.inr (some (1366, 0)))], zfR M) := by
  unfold m12_begin_149 at h
  obtain ⟨hg4, h⟩ := zgd_inv h
  refine zblq Hy.1 Hy.2.1 [(.iastore, 1), (.iinc 4 1, 3), (.ldc 96, 3)] (S' := (96, [(0, .inr (.inr (some (12, 0)))), (1, .inl x1), (2, .inl x2), (3, .inl x3), (4, .inl (x4 + (1 : Int32)))], [], zfR (rs M 1366 0 (nx t1) t2))) (b := zin t1 10 && true) (by decide +kernel) rfl hg4 ?_
  refine zGo_keep [0, 1, 2, 3, 4] rfl ?_
  exact hk96 x1 x2 x3 (x4 + (1 : Int32)) (rs M 1366 0 (nx t1) t2) h
def m12_begin_142 (k96 : Int32 → Int32 → Int32 → Int32 → rM → Option (Int32 × rM)) (x1 : Int32) (x2 : Int32) (x3 : Int32) (x4 : Int32) (t1 : Int32) (M : rM) : Option (Int32 × rM) := zgd (zin x4 10 && true) (m12_begin_149 k96 x1 x2 x3 x4 t1 (rg M 1366 0 (nx x4)) M)
theorem m12_begin_142_ok {X : zX} {G : zG} (Hy : zHy X G q12_begin zcR 1 23 (some .int)) {r : Int32} {M' : rM} (hE : zEnd X G (some (.inl r)) (zfR M')) {k96 : Int32 → Int32 → Int32 → Int32 → rM → Option (Int32 × rM)} (hk96 : ∀ (x1 : Int32) (x2 : Int32) (x3 : Int32) (x4 : Int32) (M : rM), k96 x1 x2 x3 x4 M = some (r, M') → zGo (X, q12_begin, G) 0 0 (96, [(0, .inr (.inr (some (12, 0)))), (1, .inl x1), (2, .inl x2), (3, .inl x3), (4, .inl x4)], [], zfR M)) (x1 : Int32) (x2 : Int32) (x3 : Int32) (x4 : Int32) (t1 : Int32) (M : rM) (h : m12_begin_142 k96 x1 x2 x3 x4 t1 M = some (r, M')) : zGo (X, q12_begin, G) 0 0 (142, [(0, .inr (.inr (some (12, 0)))), (1, .inl x1), (2, .inl x2), (3, .inl x3), (4, .inl x4)], [.inl t1, .inr (.inr (some (1366, 0)))], zfR M) := by
  unfold m12_begin_142 at h
  obtain ⟨hg3, h⟩ := zgd_inv h
  refine zblq Hy.1 Hy.2.1 [(.aload 0, 1), (.getfield 1266, 3), (.iload 4, 2), (.iaload, 1)] (S' := (149, [(0, .inr (.inr (some (12, 0)))), (1, .inl x1), (2, .inl x2), (3, .inl x3), (4, .inl x4)], [.inl (rg M 1366 0 (nx x4)), .inl t1, .inr (.inr (some (1366, 0)))], zfR M)) (b := zin x4 10 && true) (by decide +kernel) rfl hg3 ?_
  refine zGo_keep [0, 1, 2, 3, 4] rfl ?_
  exact m12_begin_149_ok Hy hE hk96 x1 x2 x3 x4 t1 (rg M 1366 0 (nx x4)) M h
def m12_begin_96 : Nat → Int32 → Int32 → Int32 → Int32 → rM → Option (Int32 × rM)
  | 0, _, _, _, _, _ => none
  | n + 1, x1, x2, x3, x4, M => (if (rg M 12 0 0) ≤ x4 then m12_begin_156 x2 x3 M else (if x3 = 0 then m12_begin_156 x2 x3 M else (if ((zshr x1 x4) &&& (1 : Int32)) = (1 : Int32) then zgd (zin x4 10 && true) ((if (rg M 1302 0 (nx x4)) ≤ 0 then m12_begin_142 (m12_begin_96 n) x1 x2 x3 x4 x4 M else m12_begin_149 (m12_begin_96 n) x1 x2 x3 x4 x4 (rg M 12 0 59) M)) else m12_begin_142 (m12_begin_96 n) x1 x2 x3 x4 x4 M)))
theorem m12_begin_96_ok {X : zX} {G : zG} (Hy : zHy X G q12_begin zcR 1 23 (some .int)) {r : Int32} {M' : rM} (hE : zEnd X G (some (.inl r)) (zfR M')) : ∀ (n : Nat) (x1 : Int32) (x2 : Int32) (x3 : Int32) (x4 : Int32) (M : rM), m12_begin_96 n x1 x2 x3 x4 M = some (r, M') → zGo (X, q12_begin, G) 0 0 (96, [(0, .inr (.inr (some (12, 0)))), (1, .inl x1), (2, .inl x2), (3, .inl x3), (4, .inl x4)], [], zfR M) := by
  intro n
  induction n with
  | zero => intro x1 x2 x3 x4 M h; cases h
  | succ n ih =>
    intro x1 x2 x3 x4 M h
    unfold m12_begin_96 at h
    refine zblq Hy.1 Hy.2.1 [(.iload 4, 2), (.aload 0, 1), (.multianewarray 12 0, 3)] (S' := (102, [(0, .inr (.inr (some (12, 0)))), (1, .inl x1), (2, .inl x2), (3, .inl x3), (4, .inl x4)], [.inl (rg M 12 0 0), .inl x4], zfR M)) (b := true) (by decide +kernel) rfl rfl ?_
    refine zic_ge Hy.1 (off := 54) (tgt := 156) (by decide +kernel) (by decide) (fun hb9 => ?_) (fun hb9 => ?_)
    · replace h := zite_t h hb9
      refine zGo_keep [2, 3] rfl ?_
      exact m12_begin_156_ok Hy hE x2 x3 M h
    · replace h := zite_f h hb9
      refine zblq Hy.1 Hy.2.1 [(.iload 3, 1)] (S' := (106, [(0, .inr (.inr (some (12, 0)))), (1, .inl x1), (2, .inl x2), (3, .inl x3), (4, .inl x4)], [.inl x3], zfR M)) (b := true) (by decide +kernel) rfl rfl ?_
      refine zif_eq Hy.1 (off := 50) (tgt := 156) (by decide +kernel) (by decide) (fun hb8 => ?_) (fun hb8 => ?_)
      · replace h := zite_t h hb8
        refine zGo_keep [2, 3] rfl ?_
        exact m12_begin_156_ok Hy hE x2 x3 M h
      · replace h := zite_f h hb8
        refine zblq Hy.1 Hy.2.1 [(.aload 0, 1), (.getfield 1266, 3), (.iload 4, 2), (.iload 1, 1), (.iload 4, 2), (.ishr, 1), (.iconst 1, 1), (.iand, 1), (.iconst 1, 1)] (S' := (122, [(0, .inr (.inr (some (12, 0)))), (1, .inl x1), (2, .inl x2), (3, .inl x3), (4, .inl x4)], [.inl (1 : Int32), .inl ((zshr x1 x4) &&& (1 : Int32)), .inl x4, .inr (.inr (some (1366, 0)))], zfR M)) (b := true) (by decide +kernel) rfl rfl ?_
        refine zic_ne Hy.1 (off := 20) (tgt := 142) (by decide +kernel) (by decide) (fun hb7 => ?_) (fun hb7 => ?_)
        · replace h := zite_f h hb7
          refine zGo_keep [0, 1, 2, 3, 4] rfl ?_
          exact m12_begin_142_ok Hy hE ih x1 x2 x3 x4 x4 M h
        · replace h := zite_t h hb7
          obtain ⟨hg5, h⟩ := zgd_inv h
          refine zblq Hy.1 Hy.2.1 [(.aload 0, 1), (.getfield 1202, 3), (.iload 4, 2), (.iaload, 1)] (S' := (132, [(0, .inr (.inr (some (12, 0)))), (1, .inl x1), (2, .inl x2), (3, .inl x3), (4, .inl x4)], [.inl (rg M 1302 0 (nx x4)), .inl x4, .inr (.inr (some (1366, 0)))], zfR M)) (b := zin x4 10 && true) (by decide +kernel) rfl hg5 ?_
          refine zif_le Hy.1 (off := 10) (tgt := 142) (by decide +kernel) (by decide) (fun hb6 => ?_) (fun hb6 => ?_)
          · replace h := zite_t h hb6
            refine zGo_keep [0, 1, 2, 3, 4] rfl ?_
            exact m12_begin_142_ok Hy hE ih x1 x2 x3 x4 x4 M h
          · replace h := zite_f h hb6
            refine zblq Hy.1 Hy.2.1 [(.aload 0, 1), (.multianewarray 12 59, 3), (.ldc 149, 3)] (S' := (149, [(0, .inr (.inr (some (12, 0)))), (1, .inl x1), (2, .inl x2), (3, .inl x3), (4, .inl x4)], [.inl (rg M 12 0 59), .inl x4, .inr (.inr (some (1366, 0)))], zfR M)) (b := true) (by decide +kernel) rfl rfl ?_
            refine zGo_keep [0, 1, 2, 3, 4] rfl ?_
            exact m12_begin_149_ok Hy hE ih x1 x2 x3 x4 x4 (rg M 12 0 59) M h
def m12_begin_87 (k36 : Int32 → Int32 → Int32 → Int32 → rM → Option (Int32 × rM)) (x1 : Int32) (x2 : Int32) (x3 : Int32) (x4 : Int32) (M : rM) : Option (Int32 × rM) := k36 x1 x2 x3 (x4 + (1 : Int32)) M
theorem m12_begin_87_ok {X : zX} {G : zG} (Hy : zHy X G q12_begin zcR 1 23 (some .int)) {r : Int32} {M' : rM} (hE : zEnd X G (some (.inl r)) (zfR M')) {k36 : Int32 → Int32 → Int32 → Int32 → rM → Option (Int32 × rM)} (hk36 : ∀ (x1 : Int32) (x2 : Int32) (x3 : Int32) (x4 : Int32) (M : rM), k36 x1 x2 x3 x4 M = some (r, M') → zGo (X, q12_begin, G) 0 0 (36, [(0, .inr (.inr (some (12, 0)))), (1, .inl x1), (2, .inl x2), (3, .inl x3), (4, .inl x4)], [], zfR M)) (x1 : Int32) (x2 : Int32) (x3 : Int32) (x4 : Int32) (M : rM) (h : m12_begin_87 k36 x1 x2 x3 x4 M = some (r, M')) : zGo (X, q12_begin, G) 0 0 (87, [(0, .inr (.inr (some (12, 0)))), (1, .inl x1), (2, .inl x2), (3, .inl x3), (4, .inl x4)], [], zfR M) := by
  unfold m12_begin_87 at h
  refine zblq Hy.1 Hy.2.1 [(.iinc 4 1, 3), (.ldc 36, 3)] (S' := (36, [(0, .inr (.inr (some (12, 0)))), (1, .inl x1), (2, .inl x2), (3, .inl x3), (4, .inl (x4 + (1 : Int32)))], [], zfR M)) (b := true) (by decide +kernel) rfl rfl ?_
  refine zGo_keep [0, 1, 2, 3, 4] rfl ?_
  exact hk36 x1 x2 x3 (x4 + (1 : Int32)) M h
def m12_begin_83 (k36 : Int32 → Int32 → Int32 → Int32 → rM → Option (Int32 × rM)) (x1 : Int32) (x2 : Int32) (x4 : Int32) (t0 : Int32) (M : rM) : Option (Int32 × rM) := m12_begin_87 k36 x1 (x2 + (1 : Int32)) t0 x4 M
theorem m12_begin_83_ok {X : zX} {G : zG} (Hy : zHy X G q12_begin zcR 1 23 (some .int)) {r : Int32} {M' : rM} (hE : zEnd X G (some (.inl r)) (zfR M')) {k36 : Int32 → Int32 → Int32 → Int32 → rM → Option (Int32 × rM)} (hk36 : ∀ (x1 : Int32) (x2 : Int32) (x3 : Int32) (x4 : Int32) (M : rM), k36 x1 x2 x3 x4 M = some (r, M') → zGo (X, q12_begin, G) 0 0 (36, [(0, .inr (.inr (some (12, 0)))), (1, .inl x1), (2, .inl x2), (3, .inl x3), (4, .inl x4)], [], zfR M)) (x1 : Int32) (x2 : Int32) (x4 : Int32) (t0 : Int32) (M : rM) (h : m12_begin_83 k36 x1 x2 x4 t0 M = some (r, M')) : zGo (X, q12_begin, G) 0 0 (83, [(0, .inr (.inr (some (12, 0)))), (1, .inl x1), (2, .inl x2), (4, .inl x4)], [.inl t0], zfR M) := by
  unfold m12_begin_83 at h
  refine zblq Hy.1 Hy.2.1 [(.istore 3, 1), (.iinc 2 1, 3)] (S' := (87, [(0, .inr (.inr (some (12, 0)))), (1, .inl x1), (2, .inl (x2 + (1 : Int32))), (3, .inl t0), (4, .inl x4)], [], zfR M)) (b := true) (by decide +kernel) rfl rfl ?_
  refine zGo_keep [0, 1, 2, 3, 4] rfl ?_
  exact m12_begin_87_ok Hy hE hk36 x1 (x2 + (1 : Int32)) t0 x4 M h
def m12_begin_36 : Nat → Int32 → Int32 → Int32 → Int32 → rM → Option (Int32 × rM)
  | 0, _, _, _, _, _ => none
  | n + 1, x1, x2, x3, x4, M => (if (rg M 12 0 0) ≤ x4 then m12_begin_96 zfu x1 x2 x3 (0 : Int32) M else (if ((zshr x1 x4) &&& (1 : Int32)) = (1 : Int32) then zgd (zin x4 10 && true) ((if (rg M 1302 0 (nx x4)) ≤ 0 then m12_begin_87 (m12_begin_36 n) x1 x2 x3 x4 M else (if x3 = 0 then m12_begin_83 (m12_begin_36 n) x1 x2 x4 (0 : Int32) M else zbd (m12_isSound x4 M) (fun r11 M11 => (if r11 = 0 then m12_begin_83 (m12_begin_36 n) x1 x2 x4 (0 : Int32) M11 else m12_begin_83 (m12_begin_36 n) x1 x2 x4 (1 : Int32) M11))))) else m12_begin_87 (m12_begin_36 n) x1 x2 x3 x4 M))
theorem m12_begin_36_ok {X : zX} {G : zG} (Hy : zHy X G q12_begin zcR 1 23 (some .int)) {r : Int32} {M' : rM} (hE : zEnd X G (some (.inl r)) (zfR M')) : ∀ (n : Nat) (x1 : Int32) (x2 : Int32) (x3 : Int32) (x4 : Int32) (M : rM), m12_begin_36 n x1 x2 x3 x4 M = some (r, M') → zGo (X, q12_begin, G) 0 0 (36, [(0, .inr (.inr (some (12, 0)))), (1, .inl x1), (2, .inl x2), (3, .inl x3), (4, .inl x4)], [], zfR M) := by
  intro n
  induction n with
  | zero => intro x1 x2 x3 x4 M h; cases h
  | succ n ih =>
    intro x1 x2 x3 x4 M h
    unfold m12_begin_36 at h
    refine zblq Hy.1 Hy.2.1 [(.iload 4, 2), (.aload 0, 1), (.multianewarray 12 0, 3)] (S' := (42, [(0, .inr (.inr (some (12, 0)))), (1, .inl x1), (2, .inl x2), (3, .inl x3), (4, .inl x4)], [.inl (rg M 12 0 0), .inl x4], zfR M)) (b := true) (by decide +kernel) rfl rfl ?_
    refine zic_ge Hy.1 (off := 51) (tgt := 93) (by decide +kernel) (by decide) (fun hb16 => ?_) (fun hb16 => ?_)
    · replace h := zite_t h hb16
      refine zblq Hy.1 Hy.2.1 [(.iconst 0, 1), (.istore 4, 2)] (S' := (96, [(0, .inr (.inr (some (12, 0)))), (1, .inl x1), (2, .inl x2), (3, .inl x3), (4, .inl (0 : Int32))], [], zfR M)) (b := true) (by decide +kernel) rfl rfl ?_
      refine zGo_keep [0, 1, 2, 3, 4] rfl ?_
      exact m12_begin_96_ok Hy hE zfu x1 x2 x3 (0 : Int32) M h
    · replace h := zite_f h hb16
      refine zblq Hy.1 Hy.2.1 [(.iload 1, 1), (.iload 4, 2), (.ishr, 1), (.iconst 1, 1), (.iand, 1), (.iconst 1, 1)] (S' := (52, [(0, .inr (.inr (some (12, 0)))), (1, .inl x1), (2, .inl x2), (3, .inl x3), (4, .inl x4)], [.inl (1 : Int32), .inl ((zshr x1 x4) &&& (1 : Int32))], zfR M)) (b := true) (by decide +kernel) rfl rfl ?_
      refine zic_ne Hy.1 (off := 35) (tgt := 87) (by decide +kernel) (by decide) (fun hb15 => ?_) (fun hb15 => ?_)
      · replace h := zite_f h hb15
        refine zGo_keep [0, 1, 2, 3, 4] rfl ?_
        exact m12_begin_87_ok Hy hE ih x1 x2 x3 x4 M h
      · replace h := zite_t h hb15
        obtain ⟨hg10, h⟩ := zgd_inv h
        refine zblq Hy.1 Hy.2.1 [(.aload 0, 1), (.getfield 1202, 3), (.iload 4, 2), (.iaload, 1)] (S' := (62, [(0, .inr (.inr (some (12, 0)))), (1, .inl x1), (2, .inl x2), (3, .inl x3), (4, .inl x4)], [.inl (rg M 1302 0 (nx x4))], zfR M)) (b := zin x4 10 && true) (by decide +kernel) rfl hg10 ?_
        refine zif_le Hy.1 (off := 25) (tgt := 87) (by decide +kernel) (by decide) (fun hb14 => ?_) (fun hb14 => ?_)
        · replace h := zite_t h hb14
          refine zGo_keep [0, 1, 2, 3, 4] rfl ?_
          exact m12_begin_87_ok Hy hE ih x1 x2 x3 x4 M h
        · replace h := zite_f h hb14
          refine zblq Hy.1 Hy.2.1 [(.iload 3, 1)] (S' := (66, [(0, .inr (.inr (some (12, 0)))), (1, .inl x1), (2, .inl x2), (3, .inl x3), (4, .inl x4)], [.inl x3], zfR M)) (b := true) (by decide +kernel) rfl rfl ?_
          refine zif_eq Hy.1 (off := 16) (tgt := 82) (by decide +kernel) (by decide) (fun hb13 => ?_) (fun hb13 => ?_)
          · replace h := zite_t h hb13
            refine zblq Hy.1 Hy.2.1 [(.iconst 0, 1)] (S' := (83, [(0, .inr (.inr (some (12, 0)))), (1, .inl x1), (2, .inl x2), (3, .inl x3), (4, .inl x4)], [.inl (0 : Int32)], zfR M)) (b := true) (by decide +kernel) rfl rfl ?_
            refine zGo_keep [0, 1, 2, 4] rfl ?_
            exact m12_begin_83_ok Hy hE ih x1 x2 x4 (0 : Int32) M h
          · replace h := zite_f h hb13
            refine zblq Hy.1 Hy.2.1 [(.aload 0, 1), (.iload 4, 2)] (S' := (72, [(0, .inr (.inr (some (12, 0)))), (1, .inl x1), (2, .inl x2), (3, .inl x3), (4, .inl x4)], [.inl x4, .inr (.inr (some (12, 0)))], zfR M)) (b := true) (by decide +kernel) rfl rfl ?_
            obtain ⟨r11, M11, hc11, h⟩ := zbd_inv h
            refine zcallV Hy.1 (as := [.inl x4]) (st := []) (m12_isSound_met (zOK_G Hy.1) Hy.2.1 hc11) cw12_410 m12_isSound_in m12_isSound_se (by decide) (zhlv Hy.2.1 rfl) rfl (zroom Hy.2.2 ⟨by decide, by decide⟩) rfl (by decide +kernel) ⟨Nat.zero_le _, Nat.zero_le _⟩ ?_
            refine zif_eq Hy.1 (off := 7) (tgt := 82) (by decide +kernel) (by decide) (fun hb12 => ?_) (fun hb12 => ?_)
            · replace h := zite_t h hb12
              refine zblq Hy.1 Hy.2.1 [(.iconst 0, 1)] (S' := (83, [(0, .inr (.inr (some (12, 0)))), (1, .inl x1), (2, .inl x2), (3, .inl x3), (4, .inl x4)], [.inl (0 : Int32)], zfR M11)) (b := true) (by decide +kernel) rfl rfl ?_
              refine zGo_keep [0, 1, 2, 4] rfl ?_
              exact m12_begin_83_ok Hy hE ih x1 x2 x4 (0 : Int32) M11 h
            · replace h := zite_f h hb12
              refine zblq Hy.1 Hy.2.1 [(.iconst 1, 1), (.ldc 83, 3)] (S' := (83, [(0, .inr (.inr (some (12, 0)))), (1, .inl x1), (2, .inl x2), (3, .inl x3), (4, .inl x4)], [.inl (1 : Int32)], zfR M11)) (b := true) (by decide +kernel) rfl rfl ?_
              refine zGo_keep [0, 1, 2, 4] rfl ?_
              exact m12_begin_83_ok Hy hE ih x1 x2 x4 (1 : Int32) M11 h
def m12_begin (x1 : Int32) (M : rM) : Option (Int32 × rM) := zbd (m12_in x1 (0 : Int32) ((zshl (1 : Int32) (rg M 12 0 0)) - (1 : Int32)) M) (fun r1 M1 => (if r1 = 0 then some ((-3 : Int32), M1) else (if (rg M1 12 0 59) = 0 then some ((-4 : Int32), M1) else m12_begin_36 zfu x1 (0 : Int32) (1 : Int32) (0 : Int32) M1)))
theorem m12_begin_ok {X : zX} {G : zG} (Hy : zHy X G q12_begin zcR 1 23 (some .int)) {r : Int32} {M' : rM} (hE : zEnd X G (some (.inl r)) (zfR M')) (x1 : Int32) (M : rM) (h : m12_begin x1 M = some (r, M')) : zGo (X, q12_begin, G) 0 0 (0, [(0, .inr (.inr (some (12, 0)))), (1, .inl x1)], [], zfR M) := by
  unfold m12_begin at h
  refine zblq Hy.1 Hy.2.1 [(.iload 1, 1), (.iconst 0, 1), (.iconst 1, 1), (.aload 0, 1), (.multianewarray 12 0, 3), (.ishl, 1), (.iconst 1, 1), (.isub, 1)] (S' := (10, [(0, .inr (.inr (some (12, 0)))), (1, .inl x1)], [.inl ((zshl (1 : Int32) (rg M 12 0 0)) - (1 : Int32)), .inl (0 : Int32), .inl x1], zfR M)) (b := true) (by decide +kernel) rfl rfl ?_
  obtain ⟨r1, M1, hc1, h⟩ := zbd_inv h
  refine zcallS Hy.1 (as := [.inl x1, .inl (0 : Int32), .inl ((zshl (1 : Int32) (rg M 12 0 0)) - (1 : Int32))]) (st := []) (m12_in_met (zOK_G Hy.1) Hy.2.1 hc1) cw12_171 m12_in_in rfl (zroom Hy.2.2 ⟨by decide, by decide⟩) rfl (by decide +kernel) ⟨Nat.zero_le _, Nat.zero_le _⟩ ?_
  refine zif_ne Hy.1 (off := 6) (tgt := 19) (by decide +kernel) (by decide) (fun hb18 => ?_) (fun hb18 => ?_)
  · replace h := zite_f h hb18
    refine zblq Hy.1 Hy.2.1 [(.aload 0, 1), (.multianewarray 12 59, 3)] (S' := (23, [(0, .inr (.inr (some (12, 0)))), (1, .inl x1)], [.inl (rg M1 12 0 59)], zfR M1)) (b := true) (by decide +kernel) rfl rfl ?_
    refine zif_ne Hy.1 (off := 6) (tgt := 29) (by decide +kernel) (by decide) (fun hb17 => ?_) (fun hb17 => ?_)
    · replace h := zite_f h hb17
      refine zblq Hy.1 Hy.2.1 [(.iconst 0, 1), (.istore 2, 1), (.iconst 1, 1), (.istore 3, 1), (.iconst 0, 1), (.istore 4, 2)] (S' := (36, [(0, .inr (.inr (some (12, 0)))), (1, .inl x1), (2, .inl (0 : Int32)), (3, .inl (1 : Int32)), (4, .inl (0 : Int32))], [], zfR M1)) (b := true) (by decide +kernel) rfl rfl ?_
      refine zGo_keep [0, 1, 2, 3, 4] rfl ?_
      exact m12_begin_36_ok Hy hE zfu x1 (0 : Int32) (1 : Int32) (0 : Int32) M1 h
    · replace h := zite_t h hb17
      refine zblq Hy.1 Hy.2.1 [(.iconst (-4), 2)] (S' := (28, [(0, .inr (.inr (some (12, 0)))), (1, .inl x1)], [.inl (-4 : Int32)], zfR M1)) (b := true) (by decide +kernel) rfl rfl ?_
      cases h
      exact zret_i Hy.1 Hy.2.2 hE (by decide +kernel)
  · replace h := zite_t h hb18
    refine zblq Hy.1 Hy.2.1 [(.iconst (-3), 2)] (S' := (18, [(0, .inr (.inr (some (12, 0)))), (1, .inl x1)], [.inl (-3 : Int32)], zfR M1)) (b := true) (by decide +kernel) rfl rfl ?_
    cases h
    exact zret_i Hy.1 Hy.2.2 hE (by decide +kernel)
theorem m12_begin_met {l : Launch} {G : zG} (hG : zGok G) (hcn : zgcn G = zcR) {x1 : Int32} {M : rM} {r : Int32} {M' : rM} (h : m12_begin x1 M = some (r, M')) : zMet l G yX12_begin cX12_begin 5 (some .int) 1 23 [.inr (.inr (some (12, 0))), .inl x1] (zfR M) (some (.inl r)) (zfR M') :=
  zMet_of hG tbX12_ok rfl (by decide +kernel) (Nat.le_of_ble_eq_true rfl) (fun X _ Z hA hE => m12_begin_ok ⟨Z, hcn, hA⟩ hE x1 M h)
