abbrev q12_days : ByteArray × Nat × String × zT := (cX12_days, 4, RX12, tbX12)
def m12_days_24 : Nat → Int32 → Int32 → rM → Option (Int32 × rM)
  | 0, _, _, _ => none
  | n + 1, x2, x3, M => (if (30 : Int32) ≤ x3 then some (x2, M) else zgd (zin x3 30 && true) ((m12_days_24 n) x2 (x3 + (1 : Int32)) (rs M 1370 0 (nx x3) (2 : Int32))))
theorem m12_days_24_ok {X : zX} {G : zG} (Hy : zHy X G q12_days zcR 1 22 (some .int)) {r : Int32} {M' : rM} (hE : zEnd X G (some (.inl r)) (zfR M')) : ∀ (n : Nat) (x2 : Int32) (x3 : Int32) (M : rM), m12_days_24 n x2 x3 M = some (r, M') → zGo (X, q12_days, G) 0 0 (24, [(0, .inr (.inr (some (12, 0)))), (2, .inl x2), (3, .inl x3)], [], zfR M) := by
  intro n
  induction n with
  | zero => intro x2 x3 M h; cases h
  | succ n ih =>
    intro x2 x3 M h
    unfold m12_days_24 at h
    refine zblq Hy.1 Hy.2.1 [(.iload 3, 1), (.iconst 30, 2)] (S' := (27, [(0, .inr (.inr (some (12, 0)))), (2, .inl x2), (3, .inl x3)], [.inl (30 : Int32), .inl x3], zfR M)) (b := true) (by decide +kernel) rfl rfl ?_
    refine zic_ge Hy.1 (off := 16) (tgt := 43) (by decide +kernel) (by decide) (fun hb3 => ?_) (fun hb3 => ?_)
    · replace h := zite_t h hb3
      refine zblq Hy.1 Hy.2.1 [(.iload 2, 1)] (S' := (44, [(0, .inr (.inr (some (12, 0)))), (2, .inl x2), (3, .inl x3)], [.inl x2], zfR M)) (b := true) (by decide +kernel) rfl rfl ?_
      cases h
      exact zret_i Hy.1 Hy.2.2 hE (by decide +kernel)
    · replace h := zite_f h hb3
      obtain ⟨hg2, h⟩ := zgd_inv h
      refine zblq Hy.1 Hy.2.1 [(.aload 0, 1), (.getfield 1270, 3), (.iload 3, 1), (.iconst 2, 1), (.iastore, 1), (.iinc 3 1, 3), (.ldc 24, 3)] (S' := (24, [(0, .inr (.inr (some (12, 0)))), (2, .inl x2), (3, .inl (x3 + (1 : Int32)))], [], zfR (rs M 1370 0 (nx x3) (2 : Int32)))) (b := zin x3 30 && true) (by decide +kernel) rfl hg2 ?_
      refine zGo_keep [0, 2, 3] rfl ?_
      exact ih x2 (x3 + (1 : Int32)) (rs M 1370 0 (nx x3) (2 : Int32)) h
def m12_days (x1 : Int32) (M : rM) : Option (Int32 × rM) := zbd (m12_in x1 (1 : Int32) (5 : Int32) M) (fun r1 M1 => (if r1 = 0 then some ((-3 : Int32), M1) else m12_days_24 zfu (rg M1 12 0 67) (0 : Int32) (rs M1 12 0 67 x1)))
theorem m12_days_ok {X : zX} {G : zG} (Hy : zHy X G q12_days zcR 1 22 (some .int)) {r : Int32} {M' : rM} (hE : zEnd X G (some (.inl r)) (zfR M')) (x1 : Int32) (M : rM) (h : m12_days x1 M = some (r, M')) : zGo (X, q12_days, G) 0 0 (0, [(0, .inr (.inr (some (12, 0)))), (1, .inl x1)], [], zfR M) := by
  unfold m12_days at h
  refine zblq Hy.1 Hy.2.1 [(.iload 1, 1), (.iconst 1, 1), (.iconst 5, 1)] (S' := (3, [(0, .inr (.inr (some (12, 0)))), (1, .inl x1)], [.inl (5 : Int32), .inl (1 : Int32), .inl x1], zfR M)) (b := true) (by decide +kernel) rfl rfl ?_
  obtain ⟨r1, M1, hc1, h⟩ := zbd_inv h
  refine zcallS Hy.1 (as := [.inl x1, .inl (1 : Int32), .inl (5 : Int32)]) (st := []) (m12_in_met (zOK_G Hy.1) Hy.2.1 hc1) cw12_171 m12_in_in rfl (zroom Hy.2.2 ⟨by decide, by decide⟩) rfl (by decide +kernel) ⟨Nat.zero_le _, Nat.zero_le _⟩ ?_
  refine zif_ne Hy.1 (off := 6) (tgt := 12) (by decide +kernel) (by decide) (fun hb4 => ?_) (fun hb4 => ?_)
  · replace h := zite_f h hb4
    refine zblq Hy.1 Hy.2.1 [(.aload 0, 1), (.multianewarray 12 67, 3), (.istore 2, 1), (.aload 0, 1), (.iload 1, 1), (.invokeinterface 12 67, 3), (.iconst 0, 1), (.istore 3, 1)] (S' := (24, [(0, .inr (.inr (some (12, 0)))), (1, .inl x1), (2, .inl (rg M1 12 0 67)), (3, .inl (0 : Int32))], [], zfR (rs M1 12 0 67 x1))) (b := true) (by decide +kernel) rfl rfl ?_
    refine zGo_keep [0, 2, 3] rfl ?_
    exact m12_days_24_ok Hy hE zfu (rg M1 12 0 67) (0 : Int32) (rs M1 12 0 67 x1) h
  · replace h := zite_t h hb4
    refine zblq Hy.1 Hy.2.1 [(.iconst (-3), 2)] (S' := (11, [(0, .inr (.inr (some (12, 0)))), (1, .inl x1)], [.inl (-3 : Int32)], zfR M1)) (b := true) (by decide +kernel) rfl rfl ?_
    cases h
    exact zret_i Hy.1 Hy.2.2 hE (by decide +kernel)
theorem m12_days_met {l : Launch} {G : zG} (hG : zGok G) (hcn : zgcn G = zcR) {x1 : Int32} {M : rM} {r : Int32} {M' : rM} (h : m12_days x1 M = some (r, M')) : zMet l G yX12_days cX12_days 4 (some .int) 1 22 [.inr (.inr (some (12, 0))), .inl x1] (zfR M) (some (.inl r)) (zfR M') :=
  zMet_of hG tbX12_ok rfl (by decide +kernel) (Nat.le_of_ble_eq_true rfl) (fun X _ Z hA hE => m12_days_ok ⟨Z, hcn, hA⟩ hE x1 M h)
abbrev q12_isSpot : ByteArray × Nat × String × zT := (cX12_isSpot, 1, RX12, tbX12)
def m12_isSpot (x0 : Int32) (M : rM) : Option (Int32 × rM) := zbd (m12_in x0 (0 : Int32) (5 : Int32) M) (fun r1 M1 => zgd (zbl r1) (some (r1, M1)))
theorem m12_isSpot_ok {X : zX} {G : zG} (Hy : zHy X G q12_isSpot zcR 1 22 (some .boolean)) {r : Int32} {M' : rM} (hE : zEnd X G (some (.inl r)) (zfR M')) (x0 : Int32) (M : rM) (h : m12_isSpot x0 M = some (r, M')) : zGo (X, q12_isSpot, G) 0 0 (0, [(0, .inl x0)], [], zfR M) := by
  unfold m12_isSpot at h
  refine zblq Hy.1 Hy.2.1 [(.iload 0, 1), (.iconst 0, 1), (.iconst 5, 1)] (S' := (3, [(0, .inl x0)], [.inl (5 : Int32), .inl (0 : Int32), .inl x0], zfR M)) (b := true) (by decide +kernel) rfl rfl ?_
  obtain ⟨r1, M1, hc1, h⟩ := zbd_inv h
  refine zcallS Hy.1 (as := [.inl x0, .inl (0 : Int32), .inl (5 : Int32)]) (st := []) (m12_in_met (zOK_G Hy.1) Hy.2.1 hc1) cw12_171 m12_in_in rfl (zroom Hy.2.2 ⟨by decide, by decide⟩) rfl (by decide +kernel) ⟨Nat.zero_le _, Nat.zero_le _⟩ ?_
  obtain ⟨hg2, h⟩ := zgd_inv h
  cases h
  exact zret_z Hy.1 Hy.2.2 hg2 hE (by decide +kernel)
theorem m12_isSpot_met {l : Launch} {G : zG} (hG : zGok G) (hcn : zgcn G = zcR) {x0 : Int32} {M : rM} {r : Int32} {M' : rM} (h : m12_isSpot x0 M = some (r, M')) : zMet l G yX12_isSpot cX12_isSpot 1 (some .boolean) 1 22 [.inl x0] (zfR M) (some (.inl r)) (zfR M') :=
  zMet_of hG tbX12_ok rfl (by decide +kernel) (Nat.le_of_ble_eq_true rfl) (fun X _ Z hA hE => m12_isSpot_ok ⟨Z, hcn, hA⟩ hE x0 M h)
abbrev q12_isDay : ByteArray × Nat × String × zT := (cX12_isDay, 2, RX12, tbX12)
def m12_isDay (x1 : Int32) (M : rM) : Option (Int32 × rM) := zbd (m12_in x1 (0 : Int32) ((rg M 12 0 67) - (1 : Int32)) M) (fun r1 M1 => zgd (zbl r1) (some (r1, M1)))
theorem m12_isDay_ok {X : zX} {G : zG} (Hy : zHy X G q12_isDay zcR 1 22 (some .boolean)) {r : Int32} {M' : rM} (hE : zEnd X G (some (.inl r)) (zfR M')) (x1 : Int32) (M : rM) (h : m12_isDay x1 M = some (r, M')) : zGo (X, q12_isDay, G) 0 0 (0, [(0, .inr (.inr (some (12, 0)))), (1, .inl x1)], [], zfR M) := by
  unfold m12_isDay at h
  refine zblq Hy.1 Hy.2.1 [(.iload 1, 1), (.iconst 0, 1), (.aload 0, 1), (.multianewarray 12 67, 3), (.iconst 1, 1), (.isub, 1)] (S' := (8, [(0, .inr (.inr (some (12, 0)))), (1, .inl x1)], [.inl ((rg M 12 0 67) - (1 : Int32)), .inl (0 : Int32), .inl x1], zfR M)) (b := true) (by decide +kernel) rfl rfl ?_
  obtain ⟨r1, M1, hc1, h⟩ := zbd_inv h
  refine zcallS Hy.1 (as := [.inl x1, .inl (0 : Int32), .inl ((rg M 12 0 67) - (1 : Int32))]) (st := []) (m12_in_met (zOK_G Hy.1) Hy.2.1 hc1) cw12_171 m12_in_in rfl (zroom Hy.2.2 ⟨by decide, by decide⟩) rfl (by decide +kernel) ⟨Nat.zero_le _, Nat.zero_le _⟩ ?_
  obtain ⟨hg2, h⟩ := zgd_inv h
  cases h
  exact zret_z Hy.1 Hy.2.2 hg2 hE (by decide +kernel)
theorem m12_isDay_met {l : Launch} {G : zG} (hG : zGok G) (hcn : zgcn G = zcR) {x1 : Int32} {M : rM} {r : Int32} {M' : rM} (h : m12_isDay x1 M = some (r, M')) : zMet l G yX12_isDay cX12_isDay 2 (some .boolean) 1 22 [.inr (.inr (some (12, 0))), .inl x1] (zfR M) (some (.inl r)) (zfR M') :=
  zMet_of hG tbX12_ok rfl (by decide +kernel) (Nat.le_of_ble_eq_true rfl) (fun X _ Z hA hE => m12_isDay_ok ⟨Z, hcn, hA⟩ hE x1 M h)
abbrev q12_way : ByteArray × Nat × String × zT := (cX12_way, 5, RX12, tbX12)
def m12_way_103 (x4 : Int32) (t1 : Int32) (t2 : Int32) (M : rM) : Option (Int32 × rM) := zgd (zin t1 6 && true) (some (x4, rs M 1368 0 (nx t1) t2))
theorem m12_way_103_ok {X : zX} {G : zG} (Hy : zHy X G q12_way zcR 2 42 (some .int)) {r : Int32} {M' : rM} (hE : zEnd X G (some (.inl r)) (zfR M')) (x4 : Int32) (t1 : Int32) (t2 : Int32) (M : rM) (h : m12_way_103 x4 t1 t2 M = some (r, M')) : zGo (X, q12_way, G) 0 0 (103, [(4, .inl x4)], [.inl t2, .inl t1, .inr (.inr (some (1368, 0)))], zfR M) := by
  unfold m12_way_103 at h
  obtain ⟨hg7, h⟩ := zgd_inv h
  refine zblq Hy.1 Hy.2.1 [(.iastore, 1), (.iload 4, 2)] (S' := (106, [(4, .inl x4)], [.inl x4], zfR (rs M 1368 0 (nx t1) t2))) (b := zin t1 6 && true) (by decide +kernel) rfl hg7 ?_
  cases h
  exact zret_i Hy.1 Hy.2.2 hE (by decide +kernel)
def m12_way_68 (x1 : Int32) (x2 : Int32) (x3 : Int32) (x4 : Int32) (t1 : Int32) (t2 : Int32) (M : rM) : Option (Int32 × rM) := zgd (zin t1 6 && true) ((if x3 = 0 then zgd (zin x2 6 && true) (m12_way_103 x4 x2 ((rg (rs M 1368 0 (nx t1) t2) 1368 0 (nx x2)) &&& ((zshl (1 : Int32) x1) ^^^ (-1 : Int32))) (rs M 1368 0 (nx t1) t2)) else zgd (zin x2 6 && true) (m12_way_103 x4 x2 ((rg (rs M 1368 0 (nx t1) t2) 1368 0 (nx x2)) ||| (zshl (1 : Int32) x1)) (rs M 1368 0 (nx t1) t2))))
theorem m12_way_68_ok {X : zX} {G : zG} (Hy : zHy X G q12_way zcR 2 42 (some .int)) {r : Int32} {M' : rM} (hE : zEnd X G (some (.inl r)) (zfR M')) (x1 : Int32) (x2 : Int32) (x3 : Int32) (x4 : Int32) (t1 : Int32) (t2 : Int32) (M : rM) (h : m12_way_68 x1 x2 x3 x4 t1 t2 M = some (r, M')) : zGo (X, q12_way, G) 0 0 (68, [(0, .inr (.inr (some (12, 0)))), (1, .inl x1), (2, .inl x2), (3, .inl x3), (4, .inl x4)], [.inl t2, .inl t1, .inr (.inr (some (1368, 0)))], zfR M) := by
  unfold m12_way_68 at h
  obtain ⟨hg5, h⟩ := zgd_inv h
  refine zblq Hy.1 Hy.2.1 [(.iastore, 1), (.aload 0, 1), (.getfield 1268, 3), (.iload 2, 1), (.iload 3, 1)] (S' := (75, [(0, .inr (.inr (some (12, 0)))), (1, .inl x1), (2, .inl x2), (3, .inl x3), (4, .inl x4)], [.inl x3, .inl x2, .inr (.inr (some (1368, 0)))], zfR (rs M 1368 0 (nx t1) t2))) (b := zin t1 6 && true) (by decide +kernel) rfl hg5 ?_
  refine zif_eq Hy.1 (off := 16) (tgt := 91) (by decide +kernel) (by decide) (fun hb9 => ?_) (fun hb9 => ?_)
  · replace h := zite_t h hb9
    obtain ⟨hg6, h⟩ := zgd_inv h
    refine zblq Hy.1 Hy.2.1 [(.aload 0, 1), (.getfield 1268, 3), (.iload 2, 1), (.iaload, 1), (.iconst 1, 1), (.iload 1, 1), (.ishl, 1), (.iconst (-1), 1), (.ixor, 1), (.iand, 1)] (S' := (103, [(0, .inr (.inr (some (12, 0)))), (1, .inl x1), (2, .inl x2), (3, .inl x3), (4, .inl x4)], [.inl ((rg (rs M 1368 0 (nx t1) t2) 1368 0 (nx x2)) &&& ((zshl (1 : Int32) x1) ^^^ (-1 : Int32))), .inl x2, .inr (.inr (some (1368, 0)))], zfR (rs M 1368 0 (nx t1) t2))) (b := zin x2 6 && true) (by decide +kernel) rfl hg6 ?_
    refine zGo_keep [4] rfl ?_
    exact m12_way_103_ok Hy hE x4 x2 ((rg (rs M 1368 0 (nx t1) t2) 1368 0 (nx x2)) &&& ((zshl (1 : Int32) x1) ^^^ (-1 : Int32))) (rs M 1368 0 (nx t1) t2) h
  · replace h := zite_f h hb9
    obtain ⟨hg8, h⟩ := zgd_inv h
    refine zblq Hy.1 Hy.2.1 [(.aload 0, 1), (.getfield 1268, 3), (.iload 2, 1), (.iaload, 1), (.iconst 1, 1), (.iload 1, 1), (.ishl, 1), (.ior, 1), (.ldc 103, 3)] (S' := (103, [(0, .inr (.inr (some (12, 0)))), (1, .inl x1), (2, .inl x2), (3, .inl x3), (4, .inl x4)], [.inl ((rg (rs M 1368 0 (nx t1) t2) 1368 0 (nx x2)) ||| (zshl (1 : Int32) x1)), .inl x2, .inr (.inr (some (1368, 0)))], zfR (rs M 1368 0 (nx t1) t2))) (b := zin x2 6 && true) (by decide +kernel) rfl hg8 ?_
    refine zGo_keep [4] rfl ?_
    exact m12_way_103_ok Hy hE x4 x2 ((rg (rs M 1368 0 (nx t1) t2) 1368 0 (nx x2)) ||| (zshl (1 : Int32) x1)) (rs M 1368 0 (nx t1) t2) h
def m12_way (x1 : Int32) (x2 : Int32) (x3 : Int32) (M : rM) : Option (Int32 × rM) := zbd (m12_isSpot x1 M) (fun r1 M1 => (if r1 = 0 then some ((-2 : Int32), M1) else zbd (m12_isSpot x2 M1) (fun r2 M2 => (if r2 = 0 then some ((-2 : Int32), M2) else (if x1 = x2 then some ((-2 : Int32), M2) else zgd (zin x1 6 && true) ((if x3 = 0 then zgd (zin x1 6 && true) (m12_way_68 x1 x2 x3 ((zshr (rg M2 1368 0 (nx x1)) x2) &&& (1 : Int32)) x1 ((rg M2 1368 0 (nx x1)) &&& ((zshl (1 : Int32) x2) ^^^ (-1 : Int32))) M2) else zgd (zin x1 6 && true) (m12_way_68 x1 x2 x3 ((zshr (rg M2 1368 0 (nx x1)) x2) &&& (1 : Int32)) x1 ((rg M2 1368 0 (nx x1)) ||| (zshl (1 : Int32) x2)) M2))))))))
theorem m12_way_ok {X : zX} {G : zG} (Hy : zHy X G q12_way zcR 2 42 (some .int)) {r : Int32} {M' : rM} (hE : zEnd X G (some (.inl r)) (zfR M')) (x1 : Int32) (x2 : Int32) (x3 : Int32) (M : rM) (h : m12_way x1 x2 x3 M = some (r, M')) : zGo (X, q12_way, G) 0 0 (0, [(0, .inr (.inr (some (12, 0)))), (1, .inl x1), (2, .inl x2), (3, .inl x3)], [], zfR M) := by
  unfold m12_way at h
  refine zblq Hy.1 Hy.2.1 [(.iload 1, 1)] (S' := (1, [(0, .inr (.inr (some (12, 0)))), (1, .inl x1), (2, .inl x2), (3, .inl x3)], [.inl x1], zfR M)) (b := true) (by decide +kernel) rfl rfl ?_
  obtain ⟨r1, M1, hc1, h⟩ := zbd_inv h
  refine zcallS Hy.1 (as := [.inl x1]) (st := []) (m12_isSpot_met (zOK_G Hy.1) Hy.2.1 hc1) cw12_413 m12_isSpot_in rfl (zroom Hy.2.2 ⟨by decide, by decide⟩) rfl (by decide +kernel) ⟨Nat.zero_le _, Nat.zero_le _⟩ ?_
  refine zif_eq Hy.1 (off := 15) (tgt := 19) (by decide +kernel) (by decide) (fun hb14 => ?_) (fun hb14 => ?_)
  · replace h := zite_t h hb14
    refine zblq Hy.1 Hy.2.1 [(.iconst (-2), 2)] (S' := (21, [(0, .inr (.inr (some (12, 0)))), (1, .inl x1), (2, .inl x2), (3, .inl x3)], [.inl (-2 : Int32)], zfR M1)) (b := true) (by decide +kernel) rfl rfl ?_
    cases h
    exact zret_i Hy.1 Hy.2.2 hE (by decide +kernel)
  · replace h := zite_f h hb14
    refine zblq Hy.1 Hy.2.1 [(.iload 2, 1)] (S' := (8, [(0, .inr (.inr (some (12, 0)))), (1, .inl x1), (2, .inl x2), (3, .inl x3)], [.inl x2], zfR M1)) (b := true) (by decide +kernel) rfl rfl ?_
    obtain ⟨r2, M2, hc2, h⟩ := zbd_inv h
    refine zcallS Hy.1 (as := [.inl x2]) (st := []) (m12_isSpot_met (zOK_G Hy.1) Hy.2.1 hc2) cw12_413 m12_isSpot_in rfl (zroom Hy.2.2 ⟨by decide, by decide⟩) rfl (by decide +kernel) ⟨Nat.zero_le _, Nat.zero_le _⟩ ?_
    refine zif_eq Hy.1 (off := 8) (tgt := 19) (by decide +kernel) (by decide) (fun hb13 => ?_) (fun hb13 => ?_)
    · replace h := zite_t h hb13
      refine zblq Hy.1 Hy.2.1 [(.iconst (-2), 2)] (S' := (21, [(0, .inr (.inr (some (12, 0)))), (1, .inl x1), (2, .inl x2), (3, .inl x3)], [.inl (-2 : Int32)], zfR M2)) (b := true) (by decide +kernel) rfl rfl ?_
      cases h
      exact zret_i Hy.1 Hy.2.2 hE (by decide +kernel)
    · replace h := zite_f h hb13
      refine zblq Hy.1 Hy.2.1 [(.iload 1, 1), (.iload 2, 1)] (S' := (16, [(0, .inr (.inr (some (12, 0)))), (1, .inl x1), (2, .inl x2), (3, .inl x3)], [.inl x2, .inl x1], zfR M2)) (b := true) (by decide +kernel) rfl rfl ?_
      refine zic_ne Hy.1 (off := 6) (tgt := 22) (by decide +kernel) (by decide) (fun hb12 => ?_) (fun hb12 => ?_)
      · replace h := zite_f h hb12
        obtain ⟨hg3, h⟩ := zgd_inv h
        refine zblq Hy.1 Hy.2.1 [(.aload 0, 1), (.getfield 1268, 3), (.iload 1, 1), (.iaload, 1), (.iload 2, 1), (.ishr, 1), (.iconst 1, 1), (.iand, 1), (.istore 4, 2), (.aload 0, 1), (.getfield 1268, 3), (.iload 1, 1), (.iload 3, 1)] (S' := (40, [(0, .inr (.inr (some (12, 0)))), (1, .inl x1), (2, .inl x2), (3, .inl x3), (4, .inl ((zshr (rg M2 1368 0 (nx x1)) x2) &&& (1 : Int32)))], [.inl x3, .inl x1, .inr (.inr (some (1368, 0)))], zfR M2)) (b := zin x1 6 && true) (by decide +kernel) rfl hg3 ?_
        refine zif_eq Hy.1 (off := 16) (tgt := 56) (by decide +kernel) (by decide) (fun hb11 => ?_) (fun hb11 => ?_)
        · replace h := zite_t h hb11
          obtain ⟨hg4, h⟩ := zgd_inv h
          refine zblq Hy.1 Hy.2.1 [(.aload 0, 1), (.getfield 1268, 3), (.iload 1, 1), (.iaload, 1), (.iconst 1, 1), (.iload 2, 1), (.ishl, 1), (.iconst (-1), 1), (.ixor, 1), (.iand, 1)] (S' := (68, [(0, .inr (.inr (some (12, 0)))), (1, .inl x1), (2, .inl x2), (3, .inl x3), (4, .inl ((zshr (rg M2 1368 0 (nx x1)) x2) &&& (1 : Int32)))], [.inl ((rg M2 1368 0 (nx x1)) &&& ((zshl (1 : Int32) x2) ^^^ (-1 : Int32))), .inl x1, .inr (.inr (some (1368, 0)))], zfR M2)) (b := zin x1 6 && true) (by decide +kernel) rfl hg4 ?_
          refine zGo_keep [0, 1, 2, 3, 4] rfl ?_
          exact m12_way_68_ok Hy hE x1 x2 x3 ((zshr (rg M2 1368 0 (nx x1)) x2) &&& (1 : Int32)) x1 ((rg M2 1368 0 (nx x1)) &&& ((zshl (1 : Int32) x2) ^^^ (-1 : Int32))) M2 h
        · replace h := zite_f h hb11
          obtain ⟨hg10, h⟩ := zgd_inv h
          refine zblq Hy.1 Hy.2.1 [(.aload 0, 1), (.getfield 1268, 3), (.iload 1, 1), (.iaload, 1), (.iconst 1, 1), (.iload 2, 1), (.ishl, 1), (.ior, 1), (.ldc 68, 3)] (S' := (68, [(0, .inr (.inr (some (12, 0)))), (1, .inl x1), (2, .inl x2), (3, .inl x3), (4, .inl ((zshr (rg M2 1368 0 (nx x1)) x2) &&& (1 : Int32)))], [.inl ((rg M2 1368 0 (nx x1)) ||| (zshl (1 : Int32) x2)), .inl x1, .inr (.inr (some (1368, 0)))], zfR M2)) (b := zin x1 6 && true) (by decide +kernel) rfl hg10 ?_
          refine zGo_keep [0, 1, 2, 3, 4] rfl ?_
          exact m12_way_68_ok Hy hE x1 x2 x3 ((zshr (rg M2 1368 0 (nx x1)) x2) &&& (1 : Int32)) x1 ((rg M2 1368 0 (nx x1)) ||| (zshl (1 : Int32) x2)) M2 h
      · replace h := zite_t h hb12
        refine zblq Hy.1 Hy.2.1 [(.iconst (-2), 2)] (S' := (21, [(0, .inr (.inr (some (12, 0)))), (1, .inl x1), (2, .inl x2), (3, .inl x3)], [.inl (-2 : Int32)], zfR M2)) (b := true) (by decide +kernel) rfl rfl ?_
        cases h
        exact zret_i Hy.1 Hy.2.2 hE (by decide +kernel)
theorem m12_way_met {l : Launch} {G : zG} (hG : zGok G) (hcn : zgcn G = zcR) {x1 : Int32} {x2 : Int32} {x3 : Int32} {M : rM} {r : Int32} {M' : rM} (h : m12_way x1 x2 x3 M = some (r, M')) : zMet l G yX12_way cX12_way 5 (some .int) 2 42 [.inr (.inr (some (12, 0))), .inl x1, .inl x2, .inl x3] (zfR M) (some (.inl r)) (zfR M') :=
  zMet_of hG tbX12_ok rfl (by decide +kernel) (Nat.le_of_ble_eq_true rfl) (fun X _ Z hA hE => m12_way_ok ⟨Z, hcn, hA⟩ hE x1 x2 x3 M h)
abbrev q12_ear : ByteArray × Nat × String × zT := (cX12_ear, 4, RX12, tbX12)
def m12_ear (x1 : Int32) (x2 : Int32) (M : rM) : Option (Int32 × rM) := zbd (m12_in x1 (0 : Int32) (5 : Int32) M) (fun r1 M1 => (if r1 = 0 then some ((-2 : Int32), M1) else zbd (m12_in x2 (0 : Int32) (63 : Int32) M1) (fun r2 M2 => (if r2 = 0 then some ((-3 : Int32), M2) else zgd (zin x1 6 && (zin x1 6 && true)) (some (rg M2 1369 0 (nx x1), rs M2 1369 0 (nx x1) x2))))))
theorem m12_ear_ok {X : zX} {G : zG} (Hy : zHy X G q12_ear zcR 1 22 (some .int)) {r : Int32} {M' : rM} (hE : zEnd X G (some (.inl r)) (zfR M')) (x1 : Int32) (x2 : Int32) (M : rM) (h : m12_ear x1 x2 M = some (r, M')) : zGo (X, q12_ear, G) 0 0 (0, [(0, .inr (.inr (some (12, 0)))), (1, .inl x1), (2, .inl x2)], [], zfR M) := by
  unfold m12_ear at h
  refine zblq Hy.1 Hy.2.1 [(.iload 1, 1), (.iconst 0, 1), (.iconst 5, 1)] (S' := (3, [(0, .inr (.inr (some (12, 0)))), (1, .inl x1), (2, .inl x2)], [.inl (5 : Int32), .inl (0 : Int32), .inl x1], zfR M)) (b := true) (by decide +kernel) rfl rfl ?_
  obtain ⟨r1, M1, hc1, h⟩ := zbd_inv h
  refine zcallS Hy.1 (as := [.inl x1, .inl (0 : Int32), .inl (5 : Int32)]) (st := []) (m12_in_met (zOK_G Hy.1) Hy.2.1 hc1) cw12_171 m12_in_in rfl (zroom Hy.2.2 ⟨by decide, by decide⟩) rfl (by decide +kernel) ⟨Nat.zero_le _, Nat.zero_le _⟩ ?_
  refine zif_ne Hy.1 (off := 6) (tgt := 12) (by decide +kernel) (by decide) (fun hb5 => ?_) (fun hb5 => ?_)
  · replace h := zite_f h hb5
    refine zblq Hy.1 Hy.2.1 [(.iload 2, 1), (.iconst 0, 1), (.iconst 63, 2)] (S' := (16, [(0, .inr (.inr (some (12, 0)))), (1, .inl x1), (2, .inl x2)], [.inl (63 : Int32), .inl (0 : Int32), .inl x2], zfR M1)) (b := true) (by decide +kernel) rfl rfl ?_
    obtain ⟨r2, M2, hc2, h⟩ := zbd_inv h
    refine zcallS Hy.1 (as := [.inl x2, .inl (0 : Int32), .inl (63 : Int32)]) (st := []) (m12_in_met (zOK_G Hy.1) Hy.2.1 hc2) cw12_171 m12_in_in rfl (zroom Hy.2.2 ⟨by decide, by decide⟩) rfl (by decide +kernel) ⟨Nat.zero_le _, Nat.zero_le _⟩ ?_
    refine zif_ne Hy.1 (off := 6) (tgt := 25) (by decide +kernel) (by decide) (fun hb4 => ?_) (fun hb4 => ?_)
    · replace h := zite_f h hb4
      obtain ⟨hg3, h⟩ := zgd_inv h
      refine zblq Hy.1 Hy.2.1 [(.aload 0, 1), (.getfield 1269, 3), (.iload 1, 1), (.iaload, 1), (.istore 3, 1), (.aload 0, 1), (.getfield 1269, 3), (.iload 1, 1), (.iload 2, 1), (.iastore, 1), (.iload 3, 1)] (S' := (40, [(0, .inr (.inr (some (12, 0)))), (1, .inl x1), (2, .inl x2), (3, .inl (rg M2 1369 0 (nx x1)))], [.inl (rg M2 1369 0 (nx x1))], zfR (rs M2 1369 0 (nx x1) x2))) (b := zin x1 6 && (zin x1 6 && true)) (by decide +kernel) rfl hg3 ?_
      cases h
      exact zret_i Hy.1 Hy.2.2 hE (by decide +kernel)
    · replace h := zite_t h hb4
      refine zblq Hy.1 Hy.2.1 [(.iconst (-3), 2)] (S' := (24, [(0, .inr (.inr (some (12, 0)))), (1, .inl x1), (2, .inl x2)], [.inl (-3 : Int32)], zfR M2)) (b := true) (by decide +kernel) rfl rfl ?_
      cases h
      exact zret_i Hy.1 Hy.2.2 hE (by decide +kernel)
  · replace h := zite_t h hb5
    refine zblq Hy.1 Hy.2.1 [(.iconst (-2), 2)] (S' := (11, [(0, .inr (.inr (some (12, 0)))), (1, .inl x1), (2, .inl x2)], [.inl (-2 : Int32)], zfR M1)) (b := true) (by decide +kernel) rfl rfl ?_
    cases h
    exact zret_i Hy.1 Hy.2.2 hE (by decide +kernel)
theorem m12_ear_met {l : Launch} {G : zG} (hG : zGok G) (hcn : zgcn G = zcR) {x1 : Int32} {x2 : Int32} {M : rM} {r : Int32} {M' : rM} (h : m12_ear x1 x2 M = some (r, M')) : zMet l G yX12_ear cX12_ear 4 (some .int) 1 22 [.inr (.inr (some (12, 0))), .inl x1, .inl x2] (zfR M) (some (.inl r)) (zfR M') :=
  zMet_of hG tbX12_ok rfl (by decide +kernel) (Nat.le_of_ble_eq_true rfl) (fun X _ Z hA hE => m12_ear_ok ⟨Z, hcn, hA⟩ hE x1 x2 M h)
abbrev q12_log : ByteArray × Nat × String × zT := (cX12_log, 5, RX12, tbX12)
def m12_log (x1 : Int32) (x2 : Int32) (x3 : Int32) (M : rM) : Option (Int32 × rM) := zbd (m12_in x1 (0 : Int32) (5 : Int32) M) (fun r1 M1 => (if r1 = 0 then some ((-2 : Int32), M1) else zbd (m12_isDay x2 M1) (fun r2 M2 => (if r2 = 0 then some ((-2 : Int32), M2) else zbd (m12_in x3 (0 : Int32) (2 : Int32) M2) (fun r3 M3 => (if r3 = 0 then some ((-3 : Int32), M3) else zgd (zin (((5 : Int32) * x1) + x2) 30 && (zin (((5 : Int32) * x1) + x2) 30 && true)) (some (rg M3 1370 0 (nx (((5 : Int32) * x1) + x2)), rs M3 1370 0 (nx (((5 : Int32) * x1) + x2)) x3))))))))
theorem m12_log_ok {X : zX} {G : zG} (Hy : zHy X G q12_log zcR 2 43 (some .int)) {r : Int32} {M' : rM} (hE : zEnd X G (some (.inl r)) (zfR M')) (x1 : Int32) (x2 : Int32) (x3 : Int32) (M : rM) (h : m12_log x1 x2 x3 M = some (r, M')) : zGo (X, q12_log, G) 0 0 (0, [(0, .inr (.inr (some (12, 0)))), (1, .inl x1), (2, .inl x2), (3, .inl x3)], [], zfR M) := by
  unfold m12_log at h
  refine zblq Hy.1 Hy.2.1 [(.iload 1, 1), (.iconst 0, 1), (.iconst 5, 1)] (S' := (3, [(0, .inr (.inr (some (12, 0)))), (1, .inl x1), (2, .inl x2), (3, .inl x3)], [.inl (5 : Int32), .inl (0 : Int32), .inl x1], zfR M)) (b := true) (by decide +kernel) rfl rfl ?_
  obtain ⟨r1, M1, hc1, h⟩ := zbd_inv h
  refine zcallS Hy.1 (as := [.inl x1, .inl (0 : Int32), .inl (5 : Int32)]) (st := []) (m12_in_met (zOK_G Hy.1) Hy.2.1 hc1) cw12_171 m12_in_in rfl (zroom Hy.2.2 ⟨by decide, by decide⟩) rfl (by decide +kernel) ⟨Nat.zero_le _, Nat.zero_le _⟩ ?_
  refine zif_eq Hy.1 (off := 11) (tgt := 17) (by decide +kernel) (by decide) (fun hb7 => ?_) (fun hb7 => ?_)
  · replace h := zite_t h hb7
    refine zblq Hy.1 Hy.2.1 [(.iconst (-2), 2)] (S' := (19, [(0, .inr (.inr (some (12, 0)))), (1, .inl x1), (2, .inl x2), (3, .inl x3)], [.inl (-2 : Int32)], zfR M1)) (b := true) (by decide +kernel) rfl rfl ?_
    cases h
    exact zret_i Hy.1 Hy.2.2 hE (by decide +kernel)
  · replace h := zite_f h hb7
    refine zblq Hy.1 Hy.2.1 [(.aload 0, 1), (.iload 2, 1)] (S' := (11, [(0, .inr (.inr (some (12, 0)))), (1, .inl x1), (2, .inl x2), (3, .inl x3)], [.inl x2, .inr (.inr (some (12, 0)))], zfR M1)) (b := true) (by decide +kernel) rfl rfl ?_
    obtain ⟨r2, M2, hc2, h⟩ := zbd_inv h
    refine zcallV Hy.1 (as := [.inl x2]) (st := []) (m12_isDay_met (zOK_G Hy.1) Hy.2.1 hc2) cw12_416 m12_isDay_in m12_isDay_se (by decide) (zhlv Hy.2.1 rfl) rfl (zroom Hy.2.2 ⟨by decide, by decide⟩) rfl (by decide +kernel) ⟨Nat.zero_le _, Nat.zero_le _⟩ ?_
    refine zif_ne Hy.1 (off := 6) (tgt := 20) (by decide +kernel) (by decide) (fun hb6 => ?_) (fun hb6 => ?_)
    · replace h := zite_f h hb6
      refine zblq Hy.1 Hy.2.1 [(.iload 3, 1), (.iconst 0, 1), (.iconst 2, 1)] (S' := (23, [(0, .inr (.inr (some (12, 0)))), (1, .inl x1), (2, .inl x2), (3, .inl x3)], [.inl (2 : Int32), .inl (0 : Int32), .inl x3], zfR M2)) (b := true) (by decide +kernel) rfl rfl ?_
      obtain ⟨r3, M3, hc3, h⟩ := zbd_inv h
      refine zcallS Hy.1 (as := [.inl x3, .inl (0 : Int32), .inl (2 : Int32)]) (st := []) (m12_in_met (zOK_G Hy.1) Hy.2.1 hc3) cw12_171 m12_in_in rfl (zroom Hy.2.2 ⟨by decide, by decide⟩) rfl (by decide +kernel) ⟨Nat.zero_le _, Nat.zero_le _⟩ ?_
      refine zif_ne Hy.1 (off := 6) (tgt := 32) (by decide +kernel) (by decide) (fun hb5 => ?_) (fun hb5 => ?_)
      · replace h := zite_f h hb5
        obtain ⟨hg4, h⟩ := zgd_inv h
        refine zblq Hy.1 Hy.2.1 [(.aload 0, 1), (.getfield 1270, 3), (.iconst 5, 1), (.iload 1, 1), (.imul, 1), (.iload 2, 1), (.iadd, 1), (.iaload, 1), (.istore 4, 2), (.aload 0, 1), (.getfield 1270, 3), (.iconst 5, 1), (.iload 1, 1), (.imul, 1), (.iload 2, 1), (.iadd, 1), (.iload 3, 1), (.iastore, 1), (.iload 4, 2)] (S' := (57, [(0, .inr (.inr (some (12, 0)))), (1, .inl x1), (2, .inl x2), (3, .inl x3), (4, .inl (rg M3 1370 0 (nx (((5 : Int32) * x1) + x2))))], [.inl (rg M3 1370 0 (nx (((5 : Int32) * x1) + x2)))], zfR (rs M3 1370 0 (nx (((5 : Int32) * x1) + x2)) x3))) (b := zin (((5 : Int32) * x1) + x2) 30 && (zin (((5 : Int32) * x1) + x2) 30 && true)) (by decide +kernel) rfl hg4 ?_
        cases h
        exact zret_i Hy.1 Hy.2.2 hE (by decide +kernel)
      · replace h := zite_t h hb5
        refine zblq Hy.1 Hy.2.1 [(.iconst (-3), 2)] (S' := (31, [(0, .inr (.inr (some (12, 0)))), (1, .inl x1), (2, .inl x2), (3, .inl x3)], [.inl (-3 : Int32)], zfR M3)) (b := true) (by decide +kernel) rfl rfl ?_
        cases h
        exact zret_i Hy.1 Hy.2.2 hE (by decide +kernel)
    · replace h := zite_t h hb6
      refine zblq Hy.1 Hy.2.1 [(.iconst (-2), 2)] (S' := (19, [(0, .inr (.inr (some (12, 0)))), (1, .inl x1), (2, .inl x2), (3, .inl x3)], [.inl (-2 : Int32)], zfR M2)) (b := true) (by decide +kernel) rfl rfl ?_
      cases h
      exact zret_i Hy.1 Hy.2.2 hE (by decide +kernel)
theorem m12_log_met {l : Launch} {G : zG} (hG : zGok G) (hcn : zgcn G = zcR) {x1 : Int32} {x2 : Int32} {x3 : Int32} {M : rM} {r : Int32} {M' : rM} (h : m12_log x1 x2 x3 M = some (r, M')) : zMet l G yX12_log cX12_log 5 (some .int) 2 43 [.inr (.inr (some (12, 0))), .inl x1, .inl x2, .inl x3] (zfR M) (some (.inl r)) (zfR M') :=
  zMet_of hG tbX12_ok rfl (by decide +kernel) (Nat.le_of_ble_eq_true rfl) (fun X _ Z hA hE => m12_log_ok ⟨Z, hcn, hA⟩ hE x1 x2 x3 M h)
abbrev q12_liars : ByteArray × Nat × String × zT := (cX12_liars, 3, RX12, tbX12)
def m12_liars (x1 : Int32) (M : rM) : Option (Int32 × rM) := zbd (m12_in x1 (0 : Int32) (63 : Int32) M) (fun r1 M1 => (if r1 = 0 then some ((-3 : Int32), M1) else some (rg M1 12 0 71, rs M1 12 0 71 x1)))
theorem m12_liars_ok {X : zX} {G : zG} (Hy : zHy X G q12_liars zcR 1 22 (some .int)) {r : Int32} {M' : rM} (hE : zEnd X G (some (.inl r)) (zfR M')) (x1 : Int32) (M : rM) (h : m12_liars x1 M = some (r, M')) : zGo (X, q12_liars, G) 0 0 (0, [(0, .inr (.inr (some (12, 0)))), (1, .inl x1)], [], zfR M) := by
  unfold m12_liars at h
  refine zblq Hy.1 Hy.2.1 [(.iload 1, 1), (.iconst 0, 1), (.iconst 63, 2)] (S' := (4, [(0, .inr (.inr (some (12, 0)))), (1, .inl x1)], [.inl (63 : Int32), .inl (0 : Int32), .inl x1], zfR M)) (b := true) (by decide +kernel) rfl rfl ?_
  obtain ⟨r1, M1, hc1, h⟩ := zbd_inv h
  refine zcallS Hy.1 (as := [.inl x1, .inl (0 : Int32), .inl (63 : Int32)]) (st := []) (m12_in_met (zOK_G Hy.1) Hy.2.1 hc1) cw12_171 m12_in_in rfl (zroom Hy.2.2 ⟨by decide, by decide⟩) rfl (by decide +kernel) ⟨Nat.zero_le _, Nat.zero_le _⟩ ?_
  refine zif_ne Hy.1 (off := 6) (tgt := 13) (by decide +kernel) (by decide) (fun hb2 => ?_) (fun hb2 => ?_)
  · replace h := zite_f h hb2
    refine zblq Hy.1 Hy.2.1 [(.aload 0, 1), (.multianewarray 12 71, 3), (.istore 2, 1), (.aload 0, 1), (.iload 1, 1), (.invokeinterface 12 71, 3), (.iload 2, 1)] (S' := (24, [(0, .inr (.inr (some (12, 0)))), (1, .inl x1), (2, .inl (rg M1 12 0 71))], [.inl (rg M1 12 0 71)], zfR (rs M1 12 0 71 x1))) (b := true) (by decide +kernel) rfl rfl ?_
    cases h
    exact zret_i Hy.1 Hy.2.2 hE (by decide +kernel)
  · replace h := zite_t h hb2
    refine zblq Hy.1 Hy.2.1 [(.iconst (-3), 2)] (S' := (12, [(0, .inr (.inr (some (12, 0)))), (1, .inl x1)], [.inl (-3 : Int32)], zfR M1)) (b := true) (by decide +kernel) rfl rfl ?_
    cases h
    exact zret_i Hy.1 Hy.2.2 hE (by decide +kernel)
theorem m12_liars_met {l : Launch} {G : zG} (hG : zGok G) (hcn : zgcn G = zcR) {x1 : Int32} {M : rM} {r : Int32} {M' : rM} (h : m12_liars x1 M = some (r, M')) : zMet l G yX12_liars cX12_liars 3 (some .int) 1 22 [.inr (.inr (some (12, 0))), .inl x1] (zfR M) (some (.inl r)) (zfR M') :=
  zMet_of hG tbX12_ok rfl (by decide +kernel) (Nat.le_of_ble_eq_true rfl) (fun X _ Z hA hE => m12_liars_ok ⟨Z, hcn, hA⟩ hE x1 M h)
abbrev q12_spotOf : ByteArray × Nat × String × zT := (cX12_spotOf, 5, RX12, tbX12)
def m12_spotOf_10 : Nat → Int32 → Int32 → Int32 → rM → Option (Int32 × rM)
  | 0, _, _, _, _ => none
  | n + 1, x2, x3, x4, M => (if x4 ≤ x2 then zgd (znz (6 : Int32) && true) (some (zrem x3 (6 : Int32), M)) else zgd (znz (6 : Int32) && true) ((m12_spotOf_10 n) x2 (x3 / (6 : Int32)) (x4 + (-1 : Int32)) M))
theorem m12_spotOf_10_ok {X : zX} {G : zG} (Hy : zHy X G q12_spotOf zcR 0 0 (some .int)) {r : Int32} {M' : rM} (hE : zEnd X G (some (.inl r)) (zfR M')) : ∀ (n : Nat) (x2 : Int32) (x3 : Int32) (x4 : Int32) (M : rM), m12_spotOf_10 n x2 x3 x4 M = some (r, M') → zGo (X, q12_spotOf, G) 0 0 (10, [(2, .inl x2), (3, .inl x3), (4, .inl x4)], [], zfR M) := by
  intro n
  induction n with
  | zero => intro x2 x3 x4 M h; cases h
  | succ n ih =>
    intro x2 x3 x4 M h
    unfold m12_spotOf_10 at h
    refine zblq Hy.1 Hy.2.1 [(.iload 4, 2), (.iload 2, 1)] (S' := (13, [(2, .inl x2), (3, .inl x3), (4, .inl x4)], [.inl x2, .inl x4], zfR M)) (b := true) (by decide +kernel) rfl rfl ?_
    refine zic_le Hy.1 (off := 14) (tgt := 27) (by decide +kernel) (by decide) (fun hb3 => ?_) (fun hb3 => ?_)
    · replace h := zite_t h hb3
      obtain ⟨hg1, h⟩ := zgd_inv h
      refine zblq Hy.1 Hy.2.1 [(.iload 3, 1), (.iconst 6, 2), (.irem, 1)] (S' := (31, [(2, .inl x2), (3, .inl x3), (4, .inl x4)], [.inl (zrem x3 (6 : Int32))], zfR M)) (b := znz (6 : Int32) && true) (by decide +kernel) rfl hg1 ?_
      cases h
      exact zret_i Hy.1 Hy.2.2 hE (by decide +kernel)
    · replace h := zite_f h hb3
      obtain ⟨hg2, h⟩ := zgd_inv h
      refine zblq Hy.1 Hy.2.1 [(.iload 3, 1), (.iconst 6, 2), (.idiv, 1), (.istore 3, 1), (.iinc 4 (-1), 3), (.ldc 10, 3)] (S' := (10, [(2, .inl x2), (3, .inl (x3 / (6 : Int32))), (4, .inl (x4 + (-1 : Int32)))], [], zfR M)) (b := znz (6 : Int32) && true) (by decide +kernel) rfl hg2 ?_
      refine zGo_keep [2, 3, 4] rfl ?_
      exact ih x2 (x3 / (6 : Int32)) (x4 + (-1 : Int32)) M h
def m12_spotOf (x1 : Int32) (x2 : Int32) (M : rM) : Option (Int32 × rM) := m12_spotOf_10 zfu x2 x1 ((rg M 12 0 67) - (1 : Int32)) M
theorem m12_spotOf_ok {X : zX} {G : zG} (Hy : zHy X G q12_spotOf zcR 0 0 (some .int)) {r : Int32} {M' : rM} (hE : zEnd X G (some (.inl r)) (zfR M')) (x1 : Int32) (x2 : Int32) (M : rM) (h : m12_spotOf x1 x2 M = some (r, M')) : zGo (X, q12_spotOf, G) 0 0 (0, [(0, .inr (.inr (some (12, 0)))), (1, .inl x1), (2, .inl x2)], [], zfR M) := by
  unfold m12_spotOf at h
  refine zblq Hy.1 Hy.2.1 [(.iload 1, 1), (.istore 3, 1), (.aload 0, 1), (.multianewarray 12 67, 3), (.iconst 1, 1), (.isub, 1), (.istore 4, 2)] (S' := (10, [(0, .inr (.inr (some (12, 0)))), (1, .inl x1), (2, .inl x2), (3, .inl x1), (4, .inl ((rg M 12 0 67) - (1 : Int32)))], [], zfR M)) (b := true) (by decide +kernel) rfl rfl ?_
  refine zGo_keep [2, 3, 4] rfl ?_
  exact m12_spotOf_10_ok Hy hE zfu x2 x1 ((rg M 12 0 67) - (1 : Int32)) M h
theorem m12_spotOf_met {l : Launch} {G : zG} (hG : zGok G) (hcn : zgcn G = zcR) {x1 : Int32} {x2 : Int32} {M : rM} {r : Int32} {M' : rM} (h : m12_spotOf x1 x2 M = some (r, M')) : zMet l G yX12_spotOf cX12_spotOf 5 (some .int) 0 0 [.inr (.inr (some (12, 0))), .inl x1, .inl x2] (zfR M) (some (.inl r)) (zfR M') :=
  zMet_of hG tbX12_ok rfl (by decide +kernel) (Nat.le_of_ble_eq_true rfl) (fun X _ Z hA hE => m12_spotOf_ok ⟨Z, hcn, hA⟩ hE x1 x2 M h)
abbrev q12_agrees : ByteArray × Nat × String × zT := (cX12_agrees, 9, RX12, tbX12)
def m12_agrees_146 (k5 : Int32 → Int32 → Int32 → Int32 → rM → Option (Int32 × rM)) (k69 : Int32 → Int32 → Int32 → Int32 → Int32 → Int32 → rM → Option (Int32 × rM)) (x1 : Int32) (x2 : Int32) (x4 : Int32) (x5 : Int32) (x6 : Int32) (t0 : Int32) (t1 : Int32) (M : rM) : Option (Int32 × rM) := k69 x1 x2 (t0 + t1) x4 x5 (x6 + (1 : Int32)) M
theorem m12_agrees_146_ok {X : zX} {G : zG} (Hy : zHy X G q12_agrees zcR 1 24 (some .boolean)) {r : Int32} {M' : rM} (hE : zEnd X G (some (.inl r)) (zfR M')) {k5 : Int32 → Int32 → Int32 → Int32 → rM → Option (Int32 × rM)} (hk5 : ∀ (x1 : Int32) (x2 : Int32) (x3 : Int32) (x4 : Int32) (M : rM), k5 x1 x2 x3 x4 M = some (r, M') → zGo (X, q12_agrees, G) 0 0 (5, [(0, .inr (.inr (some (12, 0)))), (1, .inl x1), (2, .inl x2), (3, .inl x3), (4, .inl x4)], [], zfR M)) {k69 : Int32 → Int32 → Int32 → Int32 → Int32 → Int32 → rM → Option (Int32 × rM)} (hk69 : ∀ (x1 : Int32) (x2 : Int32) (x3 : Int32) (x4 : Int32) (x5 : Int32) (x6 : Int32) (M : rM), k69 x1 x2 x3 x4 x5 x6 M = some (r, M') → zGo (X, q12_agrees, G) 0 0 (69, [(0, .inr (.inr (some (12, 0)))), (1, .inl x1), (2, .inl x2), (3, .inl x3), (4, .inl x4), (5, .inl x5), (6, .inl x6)], [], zfR M)) (x1 : Int32) (x2 : Int32) (x4 : Int32) (x5 : Int32) (x6 : Int32) (t0 : Int32) (t1 : Int32) (M : rM) (h : m12_agrees_146 k5 k69 x1 x2 x4 x5 x6 t0 t1 M = some (r, M')) : zGo (X, q12_agrees, G) 0 0 (146, [(0, .inr (.inr (some (12, 0)))), (1, .inl x1), (2, .inl x2), (4, .inl x4), (5, .inl x5), (6, .inl x6)], [.inl t1, .inl t0], zfR M) := by
  unfold m12_agrees_146 at h
  refine zblq Hy.1 Hy.2.1 [(.iadd, 1), (.istore 3, 1), (.iinc 6 1, 3), (.ldc 69, 3)] (S' := (69, [(0, .inr (.inr (some (12, 0)))), (1, .inl x1), (2, .inl x2), (3, .inl (t0 + t1)), (4, .inl x4), (5, .inl x5), (6, .inl (x6 + (1 : Int32)))], [], zfR M)) (b := true) (by decide +kernel) rfl rfl ?_
  refine zGo_keep [0, 1, 2, 3, 4, 5, 6] rfl ?_
  exact hk69 x1 x2 (t0 + t1) x4 x5 (x6 + (1 : Int32)) M h
def m12_agrees_130 (k5 : Int32 → Int32 → Int32 → Int32 → rM → Option (Int32 × rM)) (k69 : Int32 → Int32 → Int32 → Int32 → Int32 → Int32 → rM → Option (Int32 × rM)) (x1 : Int32) (x2 : Int32) (x3 : Int32) (x4 : Int32) (x5 : Int32) (x6 : Int32) (x7 : Int32) (x8 : Int32) (M : rM) : Option (Int32 × rM) := (if x7 = 0 then (if x8 = 0 then m12_agrees_146 k5 k69 x1 x2 x4 x5 x6 x3 (0 : Int32) M else m12_agrees_146 k5 k69 x1 x2 x4 x5 x6 x3 (1 : Int32) M) else m12_agrees_146 k5 k69 x1 x2 x4 x5 x6 x3 (0 : Int32) M)
theorem m12_agrees_130_ok {X : zX} {G : zG} (Hy : zHy X G q12_agrees zcR 1 24 (some .boolean)) {r : Int32} {M' : rM} (hE : zEnd X G (some (.inl r)) (zfR M')) {k5 : Int32 → Int32 → Int32 → Int32 → rM → Option (Int32 × rM)} (hk5 : ∀ (x1 : Int32) (x2 : Int32) (x3 : Int32) (x4 : Int32) (M : rM), k5 x1 x2 x3 x4 M = some (r, M') → zGo (X, q12_agrees, G) 0 0 (5, [(0, .inr (.inr (some (12, 0)))), (1, .inl x1), (2, .inl x2), (3, .inl x3), (4, .inl x4)], [], zfR M)) {k69 : Int32 → Int32 → Int32 → Int32 → Int32 → Int32 → rM → Option (Int32 × rM)} (hk69 : ∀ (x1 : Int32) (x2 : Int32) (x3 : Int32) (x4 : Int32) (x5 : Int32) (x6 : Int32) (M : rM), k69 x1 x2 x3 x4 x5 x6 M = some (r, M') → zGo (X, q12_agrees, G) 0 0 (69, [(0, .inr (.inr (some (12, 0)))), (1, .inl x1), (2, .inl x2), (3, .inl x3), (4, .inl x4), (5, .inl x5), (6, .inl x6)], [], zfR M)) (x1 : Int32) (x2 : Int32) (x3 : Int32) (x4 : Int32) (x5 : Int32) (x6 : Int32) (x7 : Int32) (x8 : Int32) (M : rM) (h : m12_agrees_130 k5 k69 x1 x2 x3 x4 x5 x6 x7 x8 M = some (r, M')) : zGo (X, q12_agrees, G) 0 0 (130, [(0, .inr (.inr (some (12, 0)))), (1, .inl x1), (2, .inl x2), (3, .inl x3), (4, .inl x4), (5, .inl x5), (6, .inl x6), (7, .inl x7), (8, .inl x8)], [], zfR M) := by
  unfold m12_agrees_130 at h
  refine zblq Hy.1 Hy.2.1 [(.iload 3, 1), (.iload 7, 2)] (S' := (133, [(0, .inr (.inr (some (12, 0)))), (1, .inl x1), (2, .inl x2), (3, .inl x3), (4, .inl x4), (5, .inl x5), (6, .inl x6), (7, .inl x7), (8, .inl x8)], [.inl x7, .inl x3], zfR M)) (b := true) (by decide +kernel) rfl rfl ?_
  refine zif_ne Hy.1 (off := 12) (tgt := 145) (by decide +kernel) (by decide) (fun hb9 => ?_) (fun hb9 => ?_)
  · replace h := zite_f h hb9
    refine zblq Hy.1 Hy.2.1 [(.iconst 0, 1)] (S' := (146, [(0, .inr (.inr (some (12, 0)))), (1, .inl x1), (2, .inl x2), (3, .inl x3), (4, .inl x4), (5, .inl x5), (6, .inl x6), (7, .inl x7), (8, .inl x8)], [.inl (0 : Int32), .inl x3], zfR M)) (b := true) (by decide +kernel) rfl rfl ?_
    refine zGo_keep [0, 1, 2, 4, 5, 6] rfl ?_
    exact m12_agrees_146_ok Hy hE hk5 hk69 x1 x2 x4 x5 x6 x3 (0 : Int32) M h
  · replace h := zite_t h hb9
    refine zblq Hy.1 Hy.2.1 [(.iload 8, 2)] (S' := (138, [(0, .inr (.inr (some (12, 0)))), (1, .inl x1), (2, .inl x2), (3, .inl x3), (4, .inl x4), (5, .inl x5), (6, .inl x6), (7, .inl x7), (8, .inl x8)], [.inl x8, .inl x3], zfR M)) (b := true) (by decide +kernel) rfl rfl ?_
    refine zif_eq Hy.1 (off := 7) (tgt := 145) (by decide +kernel) (by decide) (fun hb8 => ?_) (fun hb8 => ?_)
    · replace h := zite_t h hb8
      refine zblq Hy.1 Hy.2.1 [(.iconst 0, 1)] (S' := (146, [(0, .inr (.inr (some (12, 0)))), (1, .inl x1), (2, .inl x2), (3, .inl x3), (4, .inl x4), (5, .inl x5), (6, .inl x6), (7, .inl x7), (8, .inl x8)], [.inl (0 : Int32), .inl x3], zfR M)) (b := true) (by decide +kernel) rfl rfl ?_
      refine zGo_keep [0, 1, 2, 4, 5, 6] rfl ?_
      exact m12_agrees_146_ok Hy hE hk5 hk69 x1 x2 x4 x5 x6 x3 (0 : Int32) M h
    · replace h := zite_f h hb8
      refine zblq Hy.1 Hy.2.1 [(.iconst 1, 1), (.ldc 146, 3)] (S' := (146, [(0, .inr (.inr (some (12, 0)))), (1, .inl x1), (2, .inl x2), (3, .inl x3), (4, .inl x4), (5, .inl x5), (6, .inl x6), (7, .inl x7), (8, .inl x8)], [.inl (1 : Int32), .inl x3], zfR M)) (b := true) (by decide +kernel) rfl rfl ?_
      refine zGo_keep [0, 1, 2, 4, 5, 6] rfl ?_
      exact m12_agrees_146_ok Hy hE hk5 hk69 x1 x2 x4 x5 x6 x3 (1 : Int32) M h
def m12_agrees_101 (k5 : Int32 → Int32 → Int32 → Int32 → rM → Option (Int32 × rM)) (k69 : Int32 → Int32 → Int32 → Int32 → Int32 → Int32 → rM → Option (Int32 × rM)) (x1 : Int32) (x2 : Int32) (x3 : Int32) (x4 : Int32) (x5 : Int32) (x6 : Int32) (t0 : Int32) (M : rM) : Option (Int32 × rM) := zgd (zin x6 6 && true) (zbd (m12_isIn (rg M 1369 0 (nx x6)) x5 M) (fun r7 M7 => (if t0 = (1 : Int32) then (if r7 = 0 then some ((0 : Int32), M7) else m12_agrees_130 k5 k69 x1 x2 x3 x4 x5 x6 t0 r7 M7) else m12_agrees_130 k5 k69 x1 x2 x3 x4 x5 x6 t0 r7 M7)))
theorem m12_agrees_101_ok {X : zX} {G : zG} (Hy : zHy X G q12_agrees zcR 1 24 (some .boolean)) {r : Int32} {M' : rM} (hE : zEnd X G (some (.inl r)) (zfR M')) {k5 : Int32 → Int32 → Int32 → Int32 → rM → Option (Int32 × rM)} (hk5 : ∀ (x1 : Int32) (x2 : Int32) (x3 : Int32) (x4 : Int32) (M : rM), k5 x1 x2 x3 x4 M = some (r, M') → zGo (X, q12_agrees, G) 0 0 (5, [(0, .inr (.inr (some (12, 0)))), (1, .inl x1), (2, .inl x2), (3, .inl x3), (4, .inl x4)], [], zfR M)) {k69 : Int32 → Int32 → Int32 → Int32 → Int32 → Int32 → rM → Option (Int32 × rM)} (hk69 : ∀ (x1 : Int32) (x2 : Int32) (x3 : Int32) (x4 : Int32) (x5 : Int32) (x6 : Int32) (M : rM), k69 x1 x2 x3 x4 x5 x6 M = some (r, M') → zGo (X, q12_agrees, G) 0 0 (69, [(0, .inr (.inr (some (12, 0)))), (1, .inl x1), (2, .inl x2), (3, .inl x3), (4, .inl x4), (5, .inl x5), (6, .inl x6)], [], zfR M)) (x1 : Int32) (x2 : Int32) (x3 : Int32) (x4 : Int32) (x5 : Int32) (x6 : Int32) (t0 : Int32) (M : rM) (h : m12_agrees_101 k5 k69 x1 x2 x3 x4 x5 x6 t0 M = some (r, M')) : zGo (X, q12_agrees, G) 0 0 (101, [(0, .inr (.inr (some (12, 0)))), (1, .inl x1), (2, .inl x2), (3, .inl x3), (4, .inl x4), (5, .inl x5), (6, .inl x6)], [.inl t0], zfR M) := by
  unfold m12_agrees_101 at h
  obtain ⟨hg6, h⟩ := zgd_inv h
  refine zblq Hy.1 Hy.2.1 [(.istore 7, 2), (.aload 0, 1), (.getfield 1269, 3), (.iload 6, 2), (.iaload, 1), (.iload 5, 2)] (S' := (112, [(0, .inr (.inr (some (12, 0)))), (1, .inl x1), (2, .inl x2), (3, .inl x3), (4, .inl x4), (5, .inl x5), (6, .inl x6), (7, .inl t0)], [.inl x5, .inl (rg M 1369 0 (nx x6))], zfR M)) (b := zin x6 6 && true) (by decide +kernel) rfl hg6 ?_
  obtain ⟨r7, M7, hc7, h⟩ := zbd_inv h
  refine zcallS Hy.1 (as := [.inl (rg M 1369 0 (nx x6)), .inl x5]) (st := []) (m12_isIn_met (zOK_G Hy.1) Hy.2.1 hc7) cw12_183 m12_isIn_in rfl (zroom Hy.2.2 ⟨by decide, by decide⟩) rfl (by decide +kernel) ⟨Nat.zero_le _, Nat.zero_le _⟩ ?_
  refine zblq Hy.1 Hy.2.1 [(.istore 8, 2), (.iload 7, 2), (.iconst 1, 1)] (S' := (120, [(0, .inr (.inr (some (12, 0)))), (1, .inl x1), (2, .inl x2), (3, .inl x3), (4, .inl x4), (5, .inl x5), (6, .inl x6), (7, .inl t0), (8, .inl r7)], [.inl (1 : Int32), .inl t0], zfR M7)) (b := true) (by decide +kernel) rfl rfl ?_
  refine zic_ne Hy.1 (off := 10) (tgt := 130) (by decide +kernel) (by decide) (fun hb11 => ?_) (fun hb11 => ?_)
  · replace h := zite_f h hb11
    refine zGo_keep [0, 1, 2, 3, 4, 5, 6, 7, 8] rfl ?_
    exact m12_agrees_130_ok Hy hE hk5 hk69 x1 x2 x3 x4 x5 x6 t0 r7 M7 h
  · replace h := zite_t h hb11
    refine zblq Hy.1 Hy.2.1 [(.iload 8, 2)] (S' := (125, [(0, .inr (.inr (some (12, 0)))), (1, .inl x1), (2, .inl x2), (3, .inl x3), (4, .inl x4), (5, .inl x5), (6, .inl x6), (7, .inl t0), (8, .inl r7)], [.inl r7], zfR M7)) (b := true) (by decide +kernel) rfl rfl ?_
    refine zif_ne Hy.1 (off := 5) (tgt := 130) (by decide +kernel) (by decide) (fun hb10 => ?_) (fun hb10 => ?_)
    · replace h := zite_f h hb10
      refine zGo_keep [0, 1, 2, 3, 4, 5, 6, 7, 8] rfl ?_
      exact m12_agrees_130_ok Hy hE hk5 hk69 x1 x2 x3 x4 x5 x6 t0 r7 M7 h
    · replace h := zite_t h hb10
      refine zblq Hy.1 Hy.2.1 [(.iconst 0, 1)] (S' := (129, [(0, .inr (.inr (some (12, 0)))), (1, .inl x1), (2, .inl x2), (3, .inl x3), (4, .inl x4), (5, .inl x5), (6, .inl x6), (7, .inl t0), (8, .inl r7)], [.inl (0 : Int32)], zfR M7)) (b := true) (by decide +kernel) rfl rfl ?_
      cases h
      exact zret_z Hy.1 Hy.2.2 (by decide) hE (by decide +kernel)
def m12_agrees_69 (k5 : Int32 → Int32 → Int32 → Int32 → rM → Option (Int32 × rM)) : Nat → Int32 → Int32 → Int32 → Int32 → Int32 → Int32 → rM → Option (Int32 × rM)
  | 0, _, _, _, _, _, _, _ => none
  | n + 1, x1, x2, x3, x4, x5, x6, M => (if (6 : Int32) ≤ x6 then k5 x1 x2 x3 (x4 + (1 : Int32)) M else zbd (m12_isIn x2 x6 M) (fun r4 M4 => (if r4 = 0 then zgd (zin (((5 : Int32) * x6) + x4) 30 && true) (m12_agrees_101 k5 (m12_agrees_69 k5 n) x1 x2 x3 x4 x5 x6 (rg M4 1370 0 (nx (((5 : Int32) * x6) + x4))) M4) else m12_agrees_101 k5 (m12_agrees_69 k5 n) x1 x2 x3 x4 x5 x6 (2 : Int32) M4)))
theorem m12_agrees_69_ok {X : zX} {G : zG} (Hy : zHy X G q12_agrees zcR 1 24 (some .boolean)) {r : Int32} {M' : rM} (hE : zEnd X G (some (.inl r)) (zfR M')) {k5 : Int32 → Int32 → Int32 → Int32 → rM → Option (Int32 × rM)} (hk5 : ∀ (x1 : Int32) (x2 : Int32) (x3 : Int32) (x4 : Int32) (M : rM), k5 x1 x2 x3 x4 M = some (r, M') → zGo (X, q12_agrees, G) 0 0 (5, [(0, .inr (.inr (some (12, 0)))), (1, .inl x1), (2, .inl x2), (3, .inl x3), (4, .inl x4)], [], zfR M)) : ∀ (n : Nat) (x1 : Int32) (x2 : Int32) (x3 : Int32) (x4 : Int32) (x5 : Int32) (x6 : Int32) (M : rM), m12_agrees_69 k5 n x1 x2 x3 x4 x5 x6 M = some (r, M') → zGo (X, q12_agrees, G) 0 0 (69, [(0, .inr (.inr (some (12, 0)))), (1, .inl x1), (2, .inl x2), (3, .inl x3), (4, .inl x4), (5, .inl x5), (6, .inl x6)], [], zfR M) := by
  intro n
  induction n with
  | zero => intro x1 x2 x3 x4 x5 x6 M h; cases h
  | succ n ih =>
    intro x1 x2 x3 x4 x5 x6 M h
    unfold m12_agrees_69 at h
    refine zblq Hy.1 Hy.2.1 [(.iload 6, 2), (.iconst 6, 2)] (S' := (73, [(0, .inr (.inr (some (12, 0)))), (1, .inl x1), (2, .inl x2), (3, .inl x3), (4, .inl x4), (5, .inl x5), (6, .inl x6)], [.inl (6 : Int32), .inl x6], zfR M)) (b := true) (by decide +kernel) rfl rfl ?_
    refine zic_ge Hy.1 (off := 81) (tgt := 154) (by decide +kernel) (by decide) (fun hb13 => ?_) (fun hb13 => ?_)
    · replace h := zite_t h hb13
      refine zblq Hy.1 Hy.2.1 [(.iinc 4 1, 3), (.ldc 5, 3)] (S' := (5, [(0, .inr (.inr (some (12, 0)))), (1, .inl x1), (2, .inl x2), (3, .inl x3), (4, .inl (x4 + (1 : Int32))), (5, .inl x5), (6, .inl x6)], [], zfR M)) (b := true) (by decide +kernel) rfl rfl ?_
      refine zGo_keep [0, 1, 2, 3, 4] rfl ?_
      exact hk5 x1 x2 x3 (x4 + (1 : Int32)) M h
    · replace h := zite_f h hb13
      refine zblq Hy.1 Hy.2.1 [(.iload 2, 1), (.iload 6, 2)] (S' := (79, [(0, .inr (.inr (some (12, 0)))), (1, .inl x1), (2, .inl x2), (3, .inl x3), (4, .inl x4), (5, .inl x5), (6, .inl x6)], [.inl x6, .inl x2], zfR M)) (b := true) (by decide +kernel) rfl rfl ?_
      obtain ⟨r4, M4, hc4, h⟩ := zbd_inv h
      refine zcallS Hy.1 (as := [.inl x2, .inl x6]) (st := []) (m12_isIn_met (zOK_G Hy.1) Hy.2.1 hc4) cw12_183 m12_isIn_in rfl (zroom Hy.2.2 ⟨by decide, by decide⟩) rfl (by decide +kernel) ⟨Nat.zero_le _, Nat.zero_le _⟩ ?_
      refine zif_eq Hy.1 (off := 7) (tgt := 89) (by decide +kernel) (by decide) (fun hb12 => ?_) (fun hb12 => ?_)
      · replace h := zite_t h hb12
        obtain ⟨hg5, h⟩ := zgd_inv h
        refine zblq Hy.1 Hy.2.1 [(.aload 0, 1), (.getfield 1270, 3), (.iconst 5, 1), (.iload 6, 2), (.imul, 1), (.iload 4, 2), (.iadd, 1), (.iaload, 1)] (S' := (101, [(0, .inr (.inr (some (12, 0)))), (1, .inl x1), (2, .inl x2), (3, .inl x3), (4, .inl x4), (5, .inl x5), (6, .inl x6)], [.inl (rg M4 1370 0 (nx (((5 : Int32) * x6) + x4)))], zfR M4)) (b := zin (((5 : Int32) * x6) + x4) 30 && true) (by decide +kernel) rfl hg5 ?_
        refine zGo_keep [0, 1, 2, 3, 4, 5, 6] rfl ?_
        exact m12_agrees_101_ok Hy hE hk5 ih x1 x2 x3 x4 x5 x6 (rg M4 1370 0 (nx (((5 : Int32) * x6) + x4))) M4 h
      · replace h := zite_f h hb12
        refine zblq Hy.1 Hy.2.1 [(.iconst 2, 1), (.ldc 101, 3)] (S' := (101, [(0, .inr (.inr (some (12, 0)))), (1, .inl x1), (2, .inl x2), (3, .inl x3), (4, .inl x4), (5, .inl x5), (6, .inl x6)], [.inl (2 : Int32)], zfR M4)) (b := true) (by decide +kernel) rfl rfl ?_
        refine zGo_keep [0, 1, 2, 3, 4, 5, 6] rfl ?_
        exact m12_agrees_101_ok Hy hE hk5 ih x1 x2 x3 x4 x5 x6 (2 : Int32) M4 h
def m12_agrees_66 (k5 : Int32 → Int32 → Int32 → Int32 → rM → Option (Int32 × rM)) (x1 : Int32) (x2 : Int32) (x3 : Int32) (x4 : Int32) (x5 : Int32) (M : rM) : Option (Int32 × rM) := m12_agrees_69 k5 zfu x1 x2 x3 x4 x5 (0 : Int32) M
theorem m12_agrees_66_ok {X : zX} {G : zG} (Hy : zHy X G q12_agrees zcR 1 24 (some .boolean)) {r : Int32} {M' : rM} (hE : zEnd X G (some (.inl r)) (zfR M')) {k5 : Int32 → Int32 → Int32 → Int32 → rM → Option (Int32 × rM)} (hk5 : ∀ (x1 : Int32) (x2 : Int32) (x3 : Int32) (x4 : Int32) (M : rM), k5 x1 x2 x3 x4 M = some (r, M') → zGo (X, q12_agrees, G) 0 0 (5, [(0, .inr (.inr (some (12, 0)))), (1, .inl x1), (2, .inl x2), (3, .inl x3), (4, .inl x4)], [], zfR M)) (x1 : Int32) (x2 : Int32) (x3 : Int32) (x4 : Int32) (x5 : Int32) (M : rM) (h : m12_agrees_66 k5 x1 x2 x3 x4 x5 M = some (r, M')) : zGo (X, q12_agrees, G) 0 0 (66, [(0, .inr (.inr (some (12, 0)))), (1, .inl x1), (2, .inl x2), (3, .inl x3), (4, .inl x4), (5, .inl x5)], [], zfR M) := by
  unfold m12_agrees_66 at h
  refine zblq Hy.1 Hy.2.1 [(.iconst 0, 1), (.istore 6, 2)] (S' := (69, [(0, .inr (.inr (some (12, 0)))), (1, .inl x1), (2, .inl x2), (3, .inl x3), (4, .inl x4), (5, .inl x5), (6, .inl (0 : Int32))], [], zfR M)) (b := true) (by decide +kernel) rfl rfl ?_
  refine zGo_keep [0, 1, 2, 3, 4, 5, 6] rfl ?_
  exact m12_agrees_69_ok Hy hE hk5 zfu x1 x2 x3 x4 x5 (0 : Int32) M h
def m12_agrees_5 : Nat → Int32 → Int32 → Int32 → Int32 → rM → Option (Int32 × rM)
  | 0, _, _, _, _, _ => none
  | n + 1, x1, x2, x3, x4, M => (if (rg M 12 0 67) ≤ x4 then zgd (zin (6 : Int32) 7 && true) ((if (rg M 1312 0 (nx (6 : Int32))) < x3 then some ((0 : Int32), M) else some ((1 : Int32), M))) else zbd (m12_spotOf x1 x4 M) (fun r3 M3 => (if x4 ≤ 0 then m12_agrees_66 (m12_agrees_5 n) x1 x2 x3 x4 r3 M3 else zbd (m12_spotOf x1 (x4 - (1 : Int32)) M3) (fun r14 M14 => (if r3 = r14 then m12_agrees_66 (m12_agrees_5 n) x1 x2 x3 x4 r3 M14 else zgd (zin r3 6 && true) (zbd (m12_spotOf x1 (x4 - (1 : Int32)) M14) (fun r16 M16 => zbd (m12_isIn (rg M14 1368 0 (nx r3)) r16 M16) (fun r17 M17 => (if r17 = 0 then some ((0 : Int32), M17) else m12_agrees_66 (m12_agrees_5 n) x1 x2 x3 x4 r3 M17)))))))))
theorem m12_agrees_5_ok {X : zX} {G : zG} (Hy : zHy X G q12_agrees zcR 1 24 (some .boolean)) {r : Int32} {M' : rM} (hE : zEnd X G (some (.inl r)) (zfR M')) : ∀ (n : Nat) (x1 : Int32) (x2 : Int32) (x3 : Int32) (x4 : Int32) (M : rM), m12_agrees_5 n x1 x2 x3 x4 M = some (r, M') → zGo (X, q12_agrees, G) 0 0 (5, [(0, .inr (.inr (some (12, 0)))), (1, .inl x1), (2, .inl x2), (3, .inl x3), (4, .inl x4)], [], zfR M) := by
  intro n
  induction n with
  | zero => intro x1 x2 x3 x4 M h; cases h
  | succ n ih =>
    intro x1 x2 x3 x4 M h
    unfold m12_agrees_5 at h
    refine zblq Hy.1 Hy.2.1 [(.iload 4, 2), (.aload 0, 1), (.multianewarray 12 67, 3)] (S' := (11, [(0, .inr (.inr (some (12, 0)))), (1, .inl x1), (2, .inl x2), (3, .inl x3), (4, .inl x4)], [.inl (rg M 12 0 67), .inl x4], zfR M)) (b := true) (by decide +kernel) rfl rfl ?_
    refine zic_ge Hy.1 (off := 149) (tgt := 160) (by decide +kernel) (by decide) (fun hb21 => ?_) (fun hb21 => ?_)
    · replace h := zite_t h hb21
      obtain ⟨hg1, h⟩ := zgd_inv h
      refine zblq Hy.1 Hy.2.1 [(.iload 3, 1), (.aload 0, 1), (.getfield 1212, 3), (.iconst 6, 2), (.iaload, 1)] (S' := (168, [(0, .inr (.inr (some (12, 0)))), (1, .inl x1), (2, .inl x2), (3, .inl x3), (4, .inl x4)], [.inl (rg M 1312 0 (nx (6 : Int32))), .inl x3], zfR M)) (b := zin (6 : Int32) 7 && true) (by decide +kernel) rfl hg1 ?_
      refine zic_gt Hy.1 (off := 7) (tgt := 175) (by decide +kernel) (by decide) (fun hb2 => ?_) (fun hb2 => ?_)
      · replace h := zite_t h hb2
        refine zblq Hy.1 Hy.2.1 [(.iconst 0, 1)] (S' := (176, [(0, .inr (.inr (some (12, 0)))), (1, .inl x1), (2, .inl x2), (3, .inl x3), (4, .inl x4)], [.inl (0 : Int32)], zfR M)) (b := true) (by decide +kernel) rfl rfl ?_
        cases h
        exact zret_z Hy.1 Hy.2.2 (by decide) hE (by decide +kernel)
      · replace h := zite_f h hb2
        refine zblq Hy.1 Hy.2.1 [(.iconst 1, 1), (.ldc 176, 3)] (S' := (176, [(0, .inr (.inr (some (12, 0)))), (1, .inl x1), (2, .inl x2), (3, .inl x3), (4, .inl x4)], [.inl (1 : Int32)], zfR M)) (b := true) (by decide +kernel) rfl rfl ?_
        cases h
        exact zret_z Hy.1 Hy.2.2 (by decide) hE (by decide +kernel)
    · replace h := zite_f h hb21
      refine zblq Hy.1 Hy.2.1 [(.aload 0, 1), (.iload 1, 1), (.iload 4, 2)] (S' := (18, [(0, .inr (.inr (some (12, 0)))), (1, .inl x1), (2, .inl x2), (3, .inl x3), (4, .inl x4)], [.inl x4, .inl x1, .inr (.inr (some (12, 0)))], zfR M)) (b := true) (by decide +kernel) rfl rfl ?_
      obtain ⟨r3, M3, hc3, h⟩ := zbd_inv h
      refine zcallV Hy.1 (as := [.inl x1, .inl x4]) (st := []) (m12_spotOf_met (zOK_G Hy.1) Hy.2.1 hc3) cw12_422 m12_spotOf_in m12_spotOf_se (by decide) (zhlv Hy.2.1 rfl) rfl (zroom Hy.2.2 ⟨by decide, by decide⟩) rfl (by decide +kernel) ⟨Nat.zero_le _, Nat.zero_le _⟩ ?_
      refine zblq Hy.1 Hy.2.1 [(.istore 5, 2), (.iload 4, 2)] (S' := (25, [(0, .inr (.inr (some (12, 0)))), (1, .inl x1), (2, .inl x2), (3, .inl x3), (4, .inl x4), (5, .inl r3)], [.inl x4], zfR M3)) (b := true) (by decide +kernel) rfl rfl ?_
      refine zif_le Hy.1 (off := 41) (tgt := 66) (by decide +kernel) (by decide) (fun hb20 => ?_) (fun hb20 => ?_)
      · replace h := zite_t h hb20
        refine zGo_keep [0, 1, 2, 3, 4, 5] rfl ?_
        exact m12_agrees_66_ok Hy hE ih x1 x2 x3 x4 r3 M3 h
      · replace h := zite_f h hb20
        refine zblq Hy.1 Hy.2.1 [(.iload 5, 2), (.aload 0, 1), (.iload 1, 1), (.iload 4, 2), (.iconst 1, 1), (.isub, 1)] (S' := (36, [(0, .inr (.inr (some (12, 0)))), (1, .inl x1), (2, .inl x2), (3, .inl x3), (4, .inl x4), (5, .inl r3)], [.inl (x4 - (1 : Int32)), .inl x1, .inr (.inr (some (12, 0))), .inl r3], zfR M3)) (b := true) (by decide +kernel) rfl rfl ?_
        obtain ⟨r14, M14, hc14, h⟩ := zbd_inv h
        refine zcallV Hy.1 (as := [.inl x1, .inl (x4 - (1 : Int32))]) (st := [.inl r3]) (m12_spotOf_met (zOK_G Hy.1) Hy.2.1 hc14) cw12_422 m12_spotOf_in m12_spotOf_se (by decide) (zhlv Hy.2.1 rfl) rfl (zroom Hy.2.2 ⟨by decide, by decide⟩) rfl (by decide +kernel) ⟨Nat.zero_le _, Nat.zero_le _⟩ ?_
        refine zic_eq Hy.1 (off := 27) (tgt := 66) (by decide +kernel) (by decide) (fun hb19 => ?_) (fun hb19 => ?_)
        · replace h := zite_t h hb19
          refine zGo_keep [0, 1, 2, 3, 4, 5] rfl ?_
          exact m12_agrees_66_ok Hy hE ih x1 x2 x3 x4 r3 M14 h
        · replace h := zite_f h hb19
          obtain ⟨hg15, h⟩ := zgd_inv h
          refine zblq Hy.1 Hy.2.1 [(.aload 0, 1), (.getfield 1268, 3), (.iload 5, 2), (.iaload, 1), (.aload 0, 1), (.iload 1, 1), (.iload 4, 2), (.iconst 1, 1), (.isub, 1)] (S' := (55, [(0, .inr (.inr (some (12, 0)))), (1, .inl x1), (2, .inl x2), (3, .inl x3), (4, .inl x4), (5, .inl r3)], [.inl (x4 - (1 : Int32)), .inl x1, .inr (.inr (some (12, 0))), .inl (rg M14 1368 0 (nx r3))], zfR M14)) (b := zin r3 6 && true) (by decide +kernel) rfl hg15 ?_
          obtain ⟨r16, M16, hc16, h⟩ := zbd_inv h
          refine zcallV Hy.1 (as := [.inl x1, .inl (x4 - (1 : Int32))]) (st := [.inl (rg M14 1368 0 (nx r3))]) (m12_spotOf_met (zOK_G Hy.1) Hy.2.1 hc16) cw12_422 m12_spotOf_in m12_spotOf_se (by decide) (zhlv Hy.2.1 rfl) rfl (zroom Hy.2.2 ⟨by decide, by decide⟩) rfl (by decide +kernel) ⟨Nat.zero_le _, Nat.zero_le _⟩ ?_
          obtain ⟨r17, M17, hc17, h⟩ := zbd_inv h
          refine zcallS Hy.1 (as := [.inl (rg M14 1368 0 (nx r3)), .inl r16]) (st := []) (m12_isIn_met (zOK_G Hy.1) Hy.2.1 hc17) cw12_183 m12_isIn_in rfl (zroom Hy.2.2 ⟨by decide, by decide⟩) rfl (by decide +kernel) ⟨Nat.zero_le _, Nat.zero_le _⟩ ?_
          refine zif_ne Hy.1 (off := 5) (tgt := 66) (by decide +kernel) (by decide) (fun hb18 => ?_) (fun hb18 => ?_)
          · replace h := zite_f h hb18
            refine zGo_keep [0, 1, 2, 3, 4, 5] rfl ?_
            exact m12_agrees_66_ok Hy hE ih x1 x2 x3 x4 r3 M17 h
          · replace h := zite_t h hb18
            refine zblq Hy.1 Hy.2.1 [(.iconst 0, 1)] (S' := (65, [(0, .inr (.inr (some (12, 0)))), (1, .inl x1), (2, .inl x2), (3, .inl x3), (4, .inl x4), (5, .inl r3)], [.inl (0 : Int32)], zfR M17)) (b := true) (by decide +kernel) rfl rfl ?_
            cases h
            exact zret_z Hy.1 Hy.2.2 (by decide) hE (by decide +kernel)
def m12_agrees (x1 : Int32) (x2 : Int32) (M : rM) : Option (Int32 × rM) := m12_agrees_5 zfu x1 x2 (0 : Int32) (0 : Int32) M
theorem m12_agrees_ok {X : zX} {G : zG} (Hy : zHy X G q12_agrees zcR 1 24 (some .boolean)) {r : Int32} {M' : rM} (hE : zEnd X G (some (.inl r)) (zfR M')) (x1 : Int32) (x2 : Int32) (M : rM) (h : m12_agrees x1 x2 M = some (r, M')) : zGo (X, q12_agrees, G) 0 0 (0, [(0, .inr (.inr (some (12, 0)))), (1, .inl x1), (2, .inl x2)], [], zfR M) := by
  unfold m12_agrees at h
  refine zblq Hy.1 Hy.2.1 [(.iconst 0, 1), (.istore 3, 1), (.iconst 0, 1), (.istore 4, 2)] (S' := (5, [(0, .inr (.inr (some (12, 0)))), (1, .inl x1), (2, .inl x2), (3, .inl (0 : Int32)), (4, .inl (0 : Int32))], [], zfR M)) (b := true) (by decide +kernel) rfl rfl ?_
  refine zGo_keep [0, 1, 2, 3, 4] rfl ?_
  exact m12_agrees_5_ok Hy hE zfu x1 x2 (0 : Int32) (0 : Int32) M h
theorem m12_agrees_met {l : Launch} {G : zG} (hG : zGok G) (hcn : zgcn G = zcR) {x1 : Int32} {x2 : Int32} {M : rM} {r : Int32} {M' : rM} (h : m12_agrees x1 x2 M = some (r, M')) : zMet l G yX12_agrees cX12_agrees 9 (some .boolean) 1 24 [.inr (.inr (some (12, 0))), .inl x1, .inl x2] (zfR M) (some (.inl r)) (zfR M') :=
  zMet_of hG tbX12_ok rfl (by decide +kernel) (Nat.le_of_ble_eq_true rfl) (fun X _ Z hA hE => m12_agrees_ok ⟨Z, hcn, hA⟩ hE x1 x2 M h)
abbrev q12_allCourses : ByteArray × Nat × String × zT := (cX12_allCourses, 3, RX12, tbX12)
def m12_allCourses_4 : Nat → Int32 → Int32 → rM → Option (Int32 × rM)
  | 0, _, _, _ => none
  | n + 1, x1, x2, M => (if (rg M 12 0 67) ≤ x2 then some (x1, M) else (m12_allCourses_4 n) (x1 * (6 : Int32)) (x2 + (1 : Int32)) M)
theorem m12_allCourses_4_ok {X : zX} {G : zG} (Hy : zHy X G q12_allCourses zcR 0 0 (some .int)) {r : Int32} {M' : rM} (hE : zEnd X G (some (.inl r)) (zfR M')) : ∀ (n : Nat) (x1 : Int32) (x2 : Int32) (M : rM), m12_allCourses_4 n x1 x2 M = some (r, M') → zGo (X, q12_allCourses, G) 0 0 (4, [(0, .inr (.inr (some (12, 0)))), (1, .inl x1), (2, .inl x2)], [], zfR M) := by
  intro n
  induction n with
  | zero => intro x1 x2 M h; cases h
  | succ n ih =>
    intro x1 x2 M h
    unfold m12_allCourses_4 at h
    refine zblq Hy.1 Hy.2.1 [(.iload 2, 1), (.aload 0, 1), (.multianewarray 12 67, 3)] (S' := (9, [(0, .inr (.inr (some (12, 0)))), (1, .inl x1), (2, .inl x2)], [.inl (rg M 12 0 67), .inl x2], zfR M)) (b := true) (by decide +kernel) rfl rfl ?_
    refine zic_ge Hy.1 (off := 14) (tgt := 23) (by decide +kernel) (by decide) (fun hb1 => ?_) (fun hb1 => ?_)
    · replace h := zite_t h hb1
      refine zblq Hy.1 Hy.2.1 [(.iload 1, 1)] (S' := (24, [(0, .inr (.inr (some (12, 0)))), (1, .inl x1), (2, .inl x2)], [.inl x1], zfR M)) (b := true) (by decide +kernel) rfl rfl ?_
      cases h
      exact zret_i Hy.1 Hy.2.2 hE (by decide +kernel)
    · replace h := zite_f h hb1
      refine zblq Hy.1 Hy.2.1 [(.iload 1, 1), (.iconst 6, 2), (.imul, 1), (.istore 1, 1), (.iinc 2 1, 3), (.ldc 4, 3)] (S' := (4, [(0, .inr (.inr (some (12, 0)))), (1, .inl (x1 * (6 : Int32))), (2, .inl (x2 + (1 : Int32)))], [], zfR M)) (b := true) (by decide +kernel) rfl rfl ?_
      refine zGo_keep [0, 1, 2] rfl ?_
      exact ih (x1 * (6 : Int32)) (x2 + (1 : Int32)) M h
def m12_allCourses  (M : rM) : Option (Int32 × rM) := m12_allCourses_4 zfu (1 : Int32) (0 : Int32) M
theorem m12_allCourses_ok {X : zX} {G : zG} (Hy : zHy X G q12_allCourses zcR 0 0 (some .int)) {r : Int32} {M' : rM} (hE : zEnd X G (some (.inl r)) (zfR M'))  (M : rM) (h : m12_allCourses M = some (r, M')) : zGo (X, q12_allCourses, G) 0 0 (0, [(0, .inr (.inr (some (12, 0))))], [], zfR M) := by
  unfold m12_allCourses at h
  refine zblq Hy.1 Hy.2.1 [(.iconst 1, 1), (.istore 1, 1), (.iconst 0, 1), (.istore 2, 1)] (S' := (4, [(0, .inr (.inr (some (12, 0)))), (1, .inl (1 : Int32)), (2, .inl (0 : Int32))], [], zfR M)) (b := true) (by decide +kernel) rfl rfl ?_
  refine zGo_keep [0, 1, 2] rfl ?_
  exact m12_allCourses_4_ok Hy hE zfu (1 : Int32) (0 : Int32) M h
theorem m12_allCourses_met {l : Launch} {G : zG} (hG : zGok G) (hcn : zgcn G = zcR)  {M : rM} {r : Int32} {M' : rM} (h : m12_allCourses M = some (r, M')) : zMet l G yX12_allCourses cX12_allCourses 3 (some .int) 0 0 [.inr (.inr (some (12, 0)))] (zfR M) (some (.inl r)) (zfR M') :=
  zMet_of hG tbX12_ok rfl (by decide +kernel) (Nat.le_of_ble_eq_true rfl) (fun X _ Z hA hE => m12_allCourses_ok ⟨Z, hcn, hA⟩ hE M h)
abbrev q12_findCourses : ByteArray × Nat × String × zT := (cX12_findCourses, 3, RX12, tbX12)
def m12_findCourses_44 (k7 : Int32 → Int32 → rM → Option rM) (x1 : Int32) (x2 : Int32) (M : rM) : Option rM := k7 x1 (x2 + (1 : Int32)) M
theorem m12_findCourses_44_ok {X : zX} {G : zG} (Hy : zHy X G q12_findCourses zcR 2 52 (none)) {M' : rM} (hE : zEnd X G (none) (zfR M')) {k7 : Int32 → Int32 → rM → Option rM} (hk7 : ∀ (x1 : Int32) (x2 : Int32) (M : rM), k7 x1 x2 M = some M' → zGo (X, q12_findCourses, G) 0 0 (7, [(0, .inr (.inr (some (12, 0)))), (1, .inl x1), (2, .inl x2)], [], zfR M)) (x1 : Int32) (x2 : Int32) (M : rM) (h : m12_findCourses_44 k7 x1 x2 M = some M') : zGo (X, q12_findCourses, G) 0 0 (44, [(0, .inr (.inr (some (12, 0)))), (1, .inl x1), (2, .inl x2)], [], zfR M) := by
  unfold m12_findCourses_44 at h
  refine zblq Hy.1 Hy.2.1 [(.iinc 2 1, 3), (.ldc 7, 3)] (S' := (7, [(0, .inr (.inr (some (12, 0)))), (1, .inl x1), (2, .inl (x2 + (1 : Int32)))], [], zfR M)) (b := true) (by decide +kernel) rfl rfl ?_
  refine zGo_keep [0, 1, 2] rfl ?_
  exact hk7 x1 (x2 + (1 : Int32)) M h
def m12_findCourses_7 : Nat → Int32 → Int32 → rM → Option rM
  | 0, _, _, _ => none
  | n + 1, x1, x2, M => zbd (m12_allCourses M) (fun r1 M1 => (if r1 ≤ x2 then some M1 else zbd (m12_agrees x2 x1 M1) (fun r2 M2 => (if r2 = 0 then m12_findCourses_44 (m12_findCourses_7 n) x1 x2 M2 else zgd (zin (rg M2 12 0 72) 7776 && true) (m12_findCourses_44 (m12_findCourses_7 n) x1 x2 (rs (rs M2 1373 0 (nx (rg M2 12 0 72)) x2) 12 0 72 ((rg (rs M2 1373 0 (nx (rg M2 12 0 72)) x2) 12 0 72) + (1 : Int32))))))))
theorem m12_findCourses_7_ok {X : zX} {G : zG} (Hy : zHy X G q12_findCourses zcR 2 52 (none)) {M' : rM} (hE : zEnd X G (none) (zfR M')) : ∀ (n : Nat) (x1 : Int32) (x2 : Int32) (M : rM), m12_findCourses_7 n x1 x2 M = some M' → zGo (X, q12_findCourses, G) 0 0 (7, [(0, .inr (.inr (some (12, 0)))), (1, .inl x1), (2, .inl x2)], [], zfR M) := by
  intro n
  induction n with
  | zero => intro x1 x2 M h; cases h
  | succ n ih =>
    intro x1 x2 M h
    unfold m12_findCourses_7 at h
    refine zblq Hy.1 Hy.2.1 [(.iload 2, 1), (.aload 0, 1)] (S' := (9, [(0, .inr (.inr (some (12, 0)))), (1, .inl x1), (2, .inl x2)], [.inr (.inr (some (12, 0))), .inl x2], zfR M)) (b := true) (by decide +kernel) rfl rfl ?_
    obtain ⟨r1, M1, hc1, h⟩ := zbd_inv h
    refine zcallV Hy.1 (as := []) (st := [.inl x2]) (m12_allCourses_met (zOK_G Hy.1) Hy.2.1 hc1) cw12_428 m12_allCourses_in m12_allCourses_se (by decide) (zhlv Hy.2.1 rfl) rfl (zroom Hy.2.2 ⟨by decide, by decide⟩) rfl (by decide +kernel) ⟨Nat.zero_le _, Nat.zero_le _⟩ ?_
    refine zic_ge Hy.1 (off := 38) (tgt := 50) (by decide +kernel) (by decide) (fun hb5 => ?_) (fun hb5 => ?_)
    · replace h := zite_t h hb5
      cases h
      exact zret_v Hy.1 Hy.2.2 hE (by decide +kernel)
    · replace h := zite_f h hb5
      refine zblq Hy.1 Hy.2.1 [(.aload 0, 1), (.iload 2, 1), (.iload 1, 1)] (S' := (18, [(0, .inr (.inr (some (12, 0)))), (1, .inl x1), (2, .inl x2)], [.inl x1, .inl x2, .inr (.inr (some (12, 0)))], zfR M1)) (b := true) (by decide +kernel) rfl rfl ?_
      obtain ⟨r2, M2, hc2, h⟩ := zbd_inv h
      refine zcallV Hy.1 (as := [.inl x2, .inl x1]) (st := []) (m12_agrees_met (zOK_G Hy.1) Hy.2.1 hc2) cw12_431 m12_agrees_in m12_agrees_se (by decide) (zhlv Hy.2.1 rfl) rfl (zroom Hy.2.2 ⟨by decide, by decide⟩) rfl (by decide +kernel) ⟨Nat.zero_le _, Nat.zero_le _⟩ ?_
      refine zif_eq Hy.1 (off := 23) (tgt := 44) (by decide +kernel) (by decide) (fun hb4 => ?_) (fun hb4 => ?_)
      · replace h := zite_t h hb4
        refine zGo_keep [0, 1, 2] rfl ?_
        exact m12_findCourses_44_ok Hy hE ih x1 x2 M2 h
      · replace h := zite_f h hb4
        obtain ⟨hg3, h⟩ := zgd_inv h
        refine zblq Hy.1 Hy.2.1 [(.aload 0, 1), (.getfield 1273, 3), (.aload 0, 1), (.multianewarray 12 72, 3), (.iload 2, 1), (.iastore, 1), (.aload 0, 1), (.dup, 1), (.multianewarray 12 72, 3), (.iconst 1, 1), (.iadd, 1), (.invokeinterface 12 72, 3)] (S' := (44, [(0, .inr (.inr (some (12, 0)))), (1, .inl x1), (2, .inl x2)], [], zfR (rs (rs M2 1373 0 (nx (rg M2 12 0 72)) x2) 12 0 72 ((rg (rs M2 1373 0 (nx (rg M2 12 0 72)) x2) 12 0 72) + (1 : Int32))))) (b := zin (rg M2 12 0 72) 7776 && true) (by decide +kernel) rfl hg3 ?_
        refine zGo_keep [0, 1, 2] rfl ?_
        exact m12_findCourses_44_ok Hy hE ih x1 x2 (rs (rs M2 1373 0 (nx (rg M2 12 0 72)) x2) 12 0 72 ((rg (rs M2 1373 0 (nx (rg M2 12 0 72)) x2) 12 0 72) + (1 : Int32))) h
def m12_findCourses (x1 : Int32) (M : rM) : Option rM := m12_findCourses_7 zfu x1 (0 : Int32) (rs M 12 0 72 (0 : Int32))
theorem m12_findCourses_ok {X : zX} {G : zG} (Hy : zHy X G q12_findCourses zcR 2 52 (none)) {M' : rM} (hE : zEnd X G (none) (zfR M')) (x1 : Int32) (M : rM) (h : m12_findCourses x1 M = some M') : zGo (X, q12_findCourses, G) 0 0 (0, [(0, .inr (.inr (some (12, 0)))), (1, .inl x1)], [], zfR M) := by
  unfold m12_findCourses at h
  refine zblq Hy.1 Hy.2.1 [(.aload 0, 1), (.iconst 0, 1), (.invokeinterface 12 72, 3), (.iconst 0, 1), (.istore 2, 1)] (S' := (7, [(0, .inr (.inr (some (12, 0)))), (1, .inl x1), (2, .inl (0 : Int32))], [], zfR (rs M 12 0 72 (0 : Int32)))) (b := true) (by decide +kernel) rfl rfl ?_
  refine zGo_keep [0, 1, 2] rfl ?_
  exact m12_findCourses_7_ok Hy hE zfu x1 (0 : Int32) (rs M 12 0 72 (0 : Int32)) h
theorem m12_findCourses_met {l : Launch} {G : zG} (hG : zGok G) (hcn : zgcn G = zcR) {x1 : Int32} {M : rM} {M' : rM} (h : m12_findCourses x1 M = some M') : zMet l G yX12_findCourses cX12_findCourses 3 (none) 2 52 [.inr (.inr (some (12, 0))), .inl x1] (zfR M) (none) (zfR M') :=
  zMet_of hG tbX12_ok rfl (by decide +kernel) (Nat.le_of_ble_eq_true rfl) (fun X _ Z hA hE => m12_findCourses_ok ⟨Z, hcn, hA⟩ hE x1 M h)
abbrev q12_courses : ByteArray × Nat × String × zT := (cX12_courses, 1, RX12, tbX12)
def m12_courses  (M : rM) : Option (Int32 × rM) := zbv (m12_findCourses (rg M 12 0 71) M) (fun M1 => some (rg M1 12 0 72, M1))
theorem m12_courses_ok {X : zX} {G : zG} (Hy : zHy X G q12_courses zcR 3 74 (some .int)) {r : Int32} {M' : rM} (hE : zEnd X G (some (.inl r)) (zfR M'))  (M : rM) (h : m12_courses M = some (r, M')) : zGo (X, q12_courses, G) 0 0 (0, [(0, .inr (.inr (some (12, 0))))], [], zfR M) := by
  unfold m12_courses at h
  refine zblq Hy.1 Hy.2.1 [(.aload 0, 1), (.aload 0, 1), (.multianewarray 12 71, 3)] (S' := (5, [(0, .inr (.inr (some (12, 0))))], [.inl (rg M 12 0 71), .inr (.inr (some (12, 0)))], zfR M)) (b := true) (by decide +kernel) rfl rfl ?_
  obtain ⟨M1, hc1, h⟩ := zbv_inv h
  refine zcallV Hy.1 (as := [.inl (rg M 12 0 71)]) (st := []) (m12_findCourses_met (zOK_G Hy.1) Hy.2.1 hc1) cw12_434 m12_findCourses_in m12_findCourses_se (by decide) (zhlv Hy.2.1 rfl) rfl (zroom Hy.2.2 ⟨by decide, by decide⟩) rfl (by decide +kernel) ⟨Nat.zero_le _, Nat.zero_le _⟩ ?_
  refine zblq Hy.1 Hy.2.1 [(.aload 0, 1), (.multianewarray 12 72, 3)] (S' := (12, [(0, .inr (.inr (some (12, 0))))], [.inl (rg M1 12 0 72)], zfR M1)) (b := true) (by decide +kernel) rfl rfl ?_
  cases h
  exact zret_i Hy.1 Hy.2.2 hE (by decide +kernel)
theorem m12_courses_met {l : Launch} {G : zG} (hG : zGok G) (hcn : zgcn G = zcR)  {M : rM} {r : Int32} {M' : rM} (h : m12_courses M = some (r, M')) : zMet l G yX12_courses cX12_courses 1 (some .int) 3 74 [.inr (.inr (some (12, 0)))] (zfR M) (some (.inl r)) (zfR M') :=
  zMet_of hG tbX12_ok rfl (by decide +kernel) (Nat.le_of_ble_eq_true rfl) (fun X _ Z hA hE => m12_courses_ok ⟨Z, hcn, hA⟩ hE M h)
abbrev q12_course : ByteArray × Nat × String × zT := (cX12_course, 3, RX12, tbX12)
def m12_course (x1 : Int32) (x2 : Int32) (M : rM) : Option (Int32 × rM) := zbd (m12_isDay x2 M) (fun r1 M1 => (if r1 = 0 then some ((-2 : Int32), M1) else zbv (m12_findCourses (rg M1 12 0 71) M1) (fun M2 => zbd (m12_in x1 (0 : Int32) ((rg M2 12 0 72) - (1 : Int32)) M2) (fun r3 M3 => (if r3 = 0 then some ((-2 : Int32), M3) else zgd (zin x1 7776 && true) (zbd (m12_spotOf (rg M3 1373 0 (nx x1)) x2 M3) (fun r5 M5 => some (r5, M5))))))))
theorem m12_course_ok {X : zX} {G : zG} (Hy : zHy X G q12_course zcR 3 74 (some .int)) {r : Int32} {M' : rM} (hE : zEnd X G (some (.inl r)) (zfR M')) (x1 : Int32) (x2 : Int32) (M : rM) (h : m12_course x1 x2 M = some (r, M')) : zGo (X, q12_course, G) 0 0 (0, [(0, .inr (.inr (some (12, 0)))), (1, .inl x1), (2, .inl x2)], [], zfR M) := by
  unfold m12_course at h
  refine zblq Hy.1 Hy.2.1 [(.aload 0, 1), (.iload 2, 1)] (S' := (2, [(0, .inr (.inr (some (12, 0)))), (1, .inl x1), (2, .inl x2)], [.inl x2, .inr (.inr (some (12, 0)))], zfR M)) (b := true) (by decide +kernel) rfl rfl ?_
  obtain ⟨r1, M1, hc1, h⟩ := zbd_inv h
  refine zcallV Hy.1 (as := [.inl x2]) (st := []) (m12_isDay_met (zOK_G Hy.1) Hy.2.1 hc1) cw12_416 m12_isDay_in m12_isDay_se (by decide) (zhlv Hy.2.1 rfl) rfl (zroom Hy.2.2 ⟨by decide, by decide⟩) rfl (by decide +kernel) ⟨Nat.zero_le _, Nat.zero_le _⟩ ?_
  refine zif_ne Hy.1 (off := 6) (tgt := 11) (by decide +kernel) (by decide) (fun hb7 => ?_) (fun hb7 => ?_)
  · replace h := zite_f h hb7
    refine zblq Hy.1 Hy.2.1 [(.aload 0, 1), (.aload 0, 1), (.multianewarray 12 71, 3)] (S' := (16, [(0, .inr (.inr (some (12, 0)))), (1, .inl x1), (2, .inl x2)], [.inl (rg M1 12 0 71), .inr (.inr (some (12, 0)))], zfR M1)) (b := true) (by decide +kernel) rfl rfl ?_
    obtain ⟨M2, hc2, h⟩ := zbv_inv h
    refine zcallV Hy.1 (as := [.inl (rg M1 12 0 71)]) (st := []) (m12_findCourses_met (zOK_G Hy.1) Hy.2.1 hc2) cw12_434 m12_findCourses_in m12_findCourses_se (by decide) (zhlv Hy.2.1 rfl) rfl (zroom Hy.2.2 ⟨by decide, by decide⟩) rfl (by decide +kernel) ⟨Nat.zero_le _, Nat.zero_le _⟩ ?_
    refine zblq Hy.1 Hy.2.1 [(.iload 1, 1), (.iconst 0, 1), (.aload 0, 1), (.multianewarray 12 72, 3), (.iconst 1, 1), (.isub, 1)] (S' := (27, [(0, .inr (.inr (some (12, 0)))), (1, .inl x1), (2, .inl x2)], [.inl ((rg M2 12 0 72) - (1 : Int32)), .inl (0 : Int32), .inl x1], zfR M2)) (b := true) (by decide +kernel) rfl rfl ?_
    obtain ⟨r3, M3, hc3, h⟩ := zbd_inv h
    refine zcallS Hy.1 (as := [.inl x1, .inl (0 : Int32), .inl ((rg M2 12 0 72) - (1 : Int32))]) (st := []) (m12_in_met (zOK_G Hy.1) Hy.2.1 hc3) cw12_171 m12_in_in rfl (zroom Hy.2.2 ⟨by decide, by decide⟩) rfl (by decide +kernel) ⟨Nat.zero_le _, Nat.zero_le _⟩ ?_
    refine zif_eq Hy.1 (off := 17) (tgt := 47) (by decide +kernel) (by decide) (fun hb6 => ?_) (fun hb6 => ?_)
    · replace h := zite_t h hb6
      refine zblq Hy.1 Hy.2.1 [(.iconst (-2), 2)] (S' := (49, [(0, .inr (.inr (some (12, 0)))), (1, .inl x1), (2, .inl x2)], [.inl (-2 : Int32)], zfR M3)) (b := true) (by decide +kernel) rfl rfl ?_
      cases h
      exact zret_i Hy.1 Hy.2.2 hE (by decide +kernel)
    · replace h := zite_f h hb6
      obtain ⟨hg4, h⟩ := zgd_inv h
      refine zblq Hy.1 Hy.2.1 [(.aload 0, 1), (.aload 0, 1), (.getfield 1273, 3), (.iload 1, 1), (.iaload, 1), (.iload 2, 1)] (S' := (41, [(0, .inr (.inr (some (12, 0)))), (1, .inl x1), (2, .inl x2)], [.inl x2, .inl (rg M3 1373 0 (nx x1)), .inr (.inr (some (12, 0)))], zfR M3)) (b := zin x1 7776 && true) (by decide +kernel) rfl hg4 ?_
      obtain ⟨r5, M5, hc5, h⟩ := zbd_inv h
      refine zcallV Hy.1 (as := [.inl (rg M3 1373 0 (nx x1)), .inl x2]) (st := []) (m12_spotOf_met (zOK_G Hy.1) Hy.2.1 hc5) cw12_422 m12_spotOf_in m12_spotOf_se (by decide) (zhlv Hy.2.1 rfl) rfl (zroom Hy.2.2 ⟨by decide, by decide⟩) rfl (by decide +kernel) ⟨Nat.zero_le _, Nat.zero_le _⟩ ?_
      refine zblq Hy.1 Hy.2.1 [(.ldc 49, 3)] (S' := (49, [(0, .inr (.inr (some (12, 0)))), (1, .inl x1), (2, .inl x2)], [.inl r5], zfR M5)) (b := true) (by decide +kernel) rfl rfl ?_
      cases h
      exact zret_i Hy.1 Hy.2.2 hE (by decide +kernel)
  · replace h := zite_t h hb7
    refine zblq Hy.1 Hy.2.1 [(.iconst (-2), 2)] (S' := (10, [(0, .inr (.inr (some (12, 0)))), (1, .inl x1), (2, .inl x2)], [.inl (-2 : Int32)], zfR M1)) (b := true) (by decide +kernel) rfl rfl ?_
    cases h
    exact zret_i Hy.1 Hy.2.2 hE (by decide +kernel)
theorem m12_course_met {l : Launch} {G : zG} (hG : zGok G) (hcn : zgcn G = zcR) {x1 : Int32} {x2 : Int32} {M : rM} {r : Int32} {M' : rM} (h : m12_course x1 x2 M = some (r, M')) : zMet l G yX12_course cX12_course 3 (some .int) 3 74 [.inr (.inr (some (12, 0))), .inl x1, .inl x2] (zfR M) (some (.inl r)) (zfR M') :=
  zMet_of hG tbX12_ok rfl (by decide +kernel) (Nat.le_of_ble_eq_true rfl) (fun X _ Z hA hE => m12_course_ok ⟨Z, hcn, hA⟩ hE x1 x2 M h)
abbrev q12_wrongClaim : ByteArray × Nat × String × zT := (cX12_wrongClaim, 6, RX12, tbX12)
def m12_wrongClaim_58 (x4 : Int32) (x5 : Int32) (M : rM) : Option (Int32 × rM) := (if x5 < x4 then some ((-3 : Int32), M) else some ((1 : Int32), M))
theorem m12_wrongClaim_58_ok {X : zX} {G : zG} (Hy : zHy X G q12_wrongClaim zcR 2 43 (some .int)) {r : Int32} {M' : rM} (hE : zEnd X G (some (.inl r)) (zfR M')) (x4 : Int32) (x5 : Int32) (M : rM) (h : m12_wrongClaim_58 x4 x5 M = some (r, M')) : zGo (X, q12_wrongClaim, G) 0 0 (58, [(4, .inl x4), (5, .inl x5)], [], zfR M) := by
  unfold m12_wrongClaim_58 at h
  refine zblq Hy.1 Hy.2.1 [(.iload 4, 2), (.iload 5, 2)] (S' := (62, [(4, .inl x4), (5, .inl x5)], [.inl x5, .inl x4], zfR M)) (b := true) (by decide +kernel) rfl rfl ?_
  refine zic_gt Hy.1 (off := 7) (tgt := 69) (by decide +kernel) (by decide) (fun hb5 => ?_) (fun hb5 => ?_)
  · replace h := zite_t h hb5
    refine zblq Hy.1 Hy.2.1 [(.iconst (-3), 2)] (S' := (71, [(4, .inl x4), (5, .inl x5)], [.inl (-3 : Int32)], zfR M)) (b := true) (by decide +kernel) rfl rfl ?_
    cases h
    exact zret_i Hy.1 Hy.2.2 hE (by decide +kernel)
  · replace h := zite_f h hb5
    refine zblq Hy.1 Hy.2.1 [(.iconst 1, 1), (.ldc 71, 3)] (S' := (71, [(4, .inl x4), (5, .inl x5)], [.inl (1 : Int32)], zfR M)) (b := true) (by decide +kernel) rfl rfl ?_
    cases h
    exact zret_i Hy.1 Hy.2.2 hE (by decide +kernel)
def m12_wrongClaim_19 (x1 : Int32) (x3 : Int32) (x4 : Int32) (x5 : Int32) (M : rM) : Option (Int32 × rM) := zbd (m12_isDay x4 M) (fun r2 M2 => (if r2 = 0 then some ((-2 : Int32), M2) else zbd (m12_isDay x5 M2) (fun r3 M3 => (if r3 = 0 then some ((-2 : Int32), M3) else zbd (m12_in x1 (0 : Int32) (1 : Int32) M3) (fun r4 M4 => (if r4 = 0 then some ((-3 : Int32), M4) else (if x1 = (1 : Int32) then m12_wrongClaim_58 x4 x5 M4 else (if x3 = 0 then m12_wrongClaim_58 x4 x5 M4 else some ((-3 : Int32), M4)))))))))
theorem m12_wrongClaim_19_ok {X : zX} {G : zG} (Hy : zHy X G q12_wrongClaim zcR 2 43 (some .int)) {r : Int32} {M' : rM} (hE : zEnd X G (some (.inl r)) (zfR M')) (x1 : Int32) (x3 : Int32) (x4 : Int32) (x5 : Int32) (M : rM) (h : m12_wrongClaim_19 x1 x3 x4 x5 M = some (r, M')) : zGo (X, q12_wrongClaim, G) 0 0 (19, [(0, .inr (.inr (some (12, 0)))), (1, .inl x1), (3, .inl x3), (4, .inl x4), (5, .inl x5)], [], zfR M) := by
  unfold m12_wrongClaim_19 at h
  refine zblq Hy.1 Hy.2.1 [(.aload 0, 1), (.iload 4, 2)] (S' := (22, [(0, .inr (.inr (some (12, 0)))), (1, .inl x1), (3, .inl x3), (4, .inl x4), (5, .inl x5)], [.inl x4, .inr (.inr (some (12, 0)))], zfR M)) (b := true) (by decide +kernel) rfl rfl ?_
  obtain ⟨r2, M2, hc2, h⟩ := zbd_inv h
  refine zcallV Hy.1 (as := [.inl x4]) (st := []) (m12_isDay_met (zOK_G Hy.1) Hy.2.1 hc2) cw12_416 m12_isDay_in m12_isDay_se (by decide) (zhlv Hy.2.1 rfl) rfl (zroom Hy.2.2 ⟨by decide, by decide⟩) rfl (by decide +kernel) ⟨Nat.zero_le _, Nat.zero_le _⟩ ?_
  refine zif_eq Hy.1 (off := 12) (tgt := 37) (by decide +kernel) (by decide) (fun hb10 => ?_) (fun hb10 => ?_)
  · replace h := zite_t h hb10
    refine zblq Hy.1 Hy.2.1 [(.iconst (-2), 2)] (S' := (39, [(0, .inr (.inr (some (12, 0)))), (1, .inl x1), (3, .inl x3), (4, .inl x4), (5, .inl x5)], [.inl (-2 : Int32)], zfR M2)) (b := true) (by decide +kernel) rfl rfl ?_
    cases h
    exact zret_i Hy.1 Hy.2.2 hE (by decide +kernel)
  · replace h := zite_f h hb10
    refine zblq Hy.1 Hy.2.1 [(.aload 0, 1), (.iload 5, 2)] (S' := (31, [(0, .inr (.inr (some (12, 0)))), (1, .inl x1), (3, .inl x3), (4, .inl x4), (5, .inl x5)], [.inl x5, .inr (.inr (some (12, 0)))], zfR M2)) (b := true) (by decide +kernel) rfl rfl ?_
    obtain ⟨r3, M3, hc3, h⟩ := zbd_inv h
    refine zcallV Hy.1 (as := [.inl x5]) (st := []) (m12_isDay_met (zOK_G Hy.1) Hy.2.1 hc3) cw12_416 m12_isDay_in m12_isDay_se (by decide) (zhlv Hy.2.1 rfl) rfl (zroom Hy.2.2 ⟨by decide, by decide⟩) rfl (by decide +kernel) ⟨Nat.zero_le _, Nat.zero_le _⟩ ?_
    refine zif_ne Hy.1 (off := 6) (tgt := 40) (by decide +kernel) (by decide) (fun hb9 => ?_) (fun hb9 => ?_)
    · replace h := zite_f h hb9
      refine zblq Hy.1 Hy.2.1 [(.iload 1, 1), (.iconst 0, 1), (.iconst 1, 1)] (S' := (43, [(0, .inr (.inr (some (12, 0)))), (1, .inl x1), (3, .inl x3), (4, .inl x4), (5, .inl x5)], [.inl (1 : Int32), .inl (0 : Int32), .inl x1], zfR M3)) (b := true) (by decide +kernel) rfl rfl ?_
      obtain ⟨r4, M4, hc4, h⟩ := zbd_inv h
      refine zcallS Hy.1 (as := [.inl x1, .inl (0 : Int32), .inl (1 : Int32)]) (st := []) (m12_in_met (zOK_G Hy.1) Hy.2.1 hc4) cw12_171 m12_in_in rfl (zroom Hy.2.2 ⟨by decide, by decide⟩) rfl (by decide +kernel) ⟨Nat.zero_le _, Nat.zero_le _⟩ ?_
      refine zif_eq Hy.1 (off := 23) (tgt := 69) (by decide +kernel) (by decide) (fun hb8 => ?_) (fun hb8 => ?_)
      · replace h := zite_t h hb8
        refine zblq Hy.1 Hy.2.1 [(.iconst (-3), 2)] (S' := (71, [(0, .inr (.inr (some (12, 0)))), (1, .inl x1), (3, .inl x3), (4, .inl x4), (5, .inl x5)], [.inl (-3 : Int32)], zfR M4)) (b := true) (by decide +kernel) rfl rfl ?_
        cases h
        exact zret_i Hy.1 Hy.2.2 hE (by decide +kernel)
      · replace h := zite_f h hb8
        refine zblq Hy.1 Hy.2.1 [(.iload 1, 1), (.iconst 1, 1)] (S' := (51, [(0, .inr (.inr (some (12, 0)))), (1, .inl x1), (3, .inl x3), (4, .inl x4), (5, .inl x5)], [.inl (1 : Int32), .inl x1], zfR M4)) (b := true) (by decide +kernel) rfl rfl ?_
        refine zic_eq Hy.1 (off := 7) (tgt := 58) (by decide +kernel) (by decide) (fun hb7 => ?_) (fun hb7 => ?_)
        · replace h := zite_t h hb7
          refine zGo_keep [4, 5] rfl ?_
          exact m12_wrongClaim_58_ok Hy hE x4 x5 M4 h
        · replace h := zite_f h hb7
          refine zblq Hy.1 Hy.2.1 [(.iload 3, 1)] (S' := (55, [(0, .inr (.inr (some (12, 0)))), (1, .inl x1), (3, .inl x3), (4, .inl x4), (5, .inl x5)], [.inl x3], zfR M4)) (b := true) (by decide +kernel) rfl rfl ?_
          refine zif_ne Hy.1 (off := 14) (tgt := 69) (by decide +kernel) (by decide) (fun hb6 => ?_) (fun hb6 => ?_)
          · replace h := zite_f h hb6
            refine zblq Hy.1 Hy.2.1 [(.iconst (-3), 2)] (S' := (71, [(0, .inr (.inr (some (12, 0)))), (1, .inl x1), (3, .inl x3), (4, .inl x4), (5, .inl x5)], [.inl (-3 : Int32)], zfR M4)) (b := true) (by decide +kernel) rfl rfl ?_
            cases h
            exact zret_i Hy.1 Hy.2.2 hE (by decide +kernel)
          · replace h := zite_t h hb6
            refine zGo_keep [4, 5] rfl ?_
            exact m12_wrongClaim_58_ok Hy hE x4 x5 M4 h
    · replace h := zite_t h hb9
      refine zblq Hy.1 Hy.2.1 [(.iconst (-2), 2)] (S' := (39, [(0, .inr (.inr (some (12, 0)))), (1, .inl x1), (3, .inl x3), (4, .inl x4), (5, .inl x5)], [.inl (-2 : Int32)], zfR M3)) (b := true) (by decide +kernel) rfl rfl ?_
      cases h
      exact zret_i Hy.1 Hy.2.2 hE (by decide +kernel)
def m12_wrongClaim (x1 : Int32) (x2 : Int32) (x3 : Int32) (x4 : Int32) (x5 : Int32) (M : rM) : Option (Int32 × rM) := zbd (m12_isSpot x2 M) (fun r1 M1 => (if r1 = 0 then some ((-2 : Int32), M1) else (if x1 = (1 : Int32) then zbd (m12_isSpot x3 M1) (fun r11 M11 => (if r11 = 0 then some ((-2 : Int32), M11) else m12_wrongClaim_19 x1 x3 x4 x5 M11)) else m12_wrongClaim_19 x1 x3 x4 x5 M1)))
theorem m12_wrongClaim_ok {X : zX} {G : zG} (Hy : zHy X G q12_wrongClaim zcR 2 43 (some .int)) {r : Int32} {M' : rM} (hE : zEnd X G (some (.inl r)) (zfR M')) (x1 : Int32) (x2 : Int32) (x3 : Int32) (x4 : Int32) (x5 : Int32) (M : rM) (h : m12_wrongClaim x1 x2 x3 x4 x5 M = some (r, M')) : zGo (X, q12_wrongClaim, G) 0 0 (0, [(0, .inr (.inr (some (12, 0)))), (1, .inl x1), (2, .inl x2), (3, .inl x3), (4, .inl x4), (5, .inl x5)], [], zfR M) := by
  unfold m12_wrongClaim at h
  refine zblq Hy.1 Hy.2.1 [(.iload 2, 1)] (S' := (1, [(0, .inr (.inr (some (12, 0)))), (1, .inl x1), (2, .inl x2), (3, .inl x3), (4, .inl x4), (5, .inl x5)], [.inl x2], zfR M)) (b := true) (by decide +kernel) rfl rfl ?_
  obtain ⟨r1, M1, hc1, h⟩ := zbd_inv h
  refine zcallS Hy.1 (as := [.inl x2]) (st := []) (m12_isSpot_met (zOK_G Hy.1) Hy.2.1 hc1) cw12_413 m12_isSpot_in rfl (zroom Hy.2.2 ⟨by decide, by decide⟩) rfl (by decide +kernel) ⟨Nat.zero_le _, Nat.zero_le _⟩ ?_
  refine zif_eq Hy.1 (off := 33) (tgt := 37) (by decide +kernel) (by decide) (fun hb14 => ?_) (fun hb14 => ?_)
  · replace h := zite_t h hb14
    refine zblq Hy.1 Hy.2.1 [(.iconst (-2), 2)] (S' := (39, [(0, .inr (.inr (some (12, 0)))), (1, .inl x1), (2, .inl x2), (3, .inl x3), (4, .inl x4), (5, .inl x5)], [.inl (-2 : Int32)], zfR M1)) (b := true) (by decide +kernel) rfl rfl ?_
    cases h
    exact zret_i Hy.1 Hy.2.2 hE (by decide +kernel)
  · replace h := zite_f h hb14
    refine zblq Hy.1 Hy.2.1 [(.iload 1, 1), (.iconst 1, 1)] (S' := (9, [(0, .inr (.inr (some (12, 0)))), (1, .inl x1), (2, .inl x2), (3, .inl x3), (4, .inl x4), (5, .inl x5)], [.inl (1 : Int32), .inl x1], zfR M1)) (b := true) (by decide +kernel) rfl rfl ?_
    refine zic_ne Hy.1 (off := 10) (tgt := 19) (by decide +kernel) (by decide) (fun hb13 => ?_) (fun hb13 => ?_)
    · replace h := zite_f h hb13
      refine zGo_keep [0, 1, 3, 4, 5] rfl ?_
      exact m12_wrongClaim_19_ok Hy hE x1 x3 x4 x5 M1 h
    · replace h := zite_t h hb13
      refine zblq Hy.1 Hy.2.1 [(.iload 3, 1)] (S' := (13, [(0, .inr (.inr (some (12, 0)))), (1, .inl x1), (2, .inl x2), (3, .inl x3), (4, .inl x4), (5, .inl x5)], [.inl x3], zfR M1)) (b := true) (by decide +kernel) rfl rfl ?_
      obtain ⟨r11, M11, hc11, h⟩ := zbd_inv h
      refine zcallS Hy.1 (as := [.inl x3]) (st := []) (m12_isSpot_met (zOK_G Hy.1) Hy.2.1 hc11) cw12_413 m12_isSpot_in rfl (zroom Hy.2.2 ⟨by decide, by decide⟩) rfl (by decide +kernel) ⟨Nat.zero_le _, Nat.zero_le _⟩ ?_
      refine zif_eq Hy.1 (off := 21) (tgt := 37) (by decide +kernel) (by decide) (fun hb12 => ?_) (fun hb12 => ?_)
      · replace h := zite_t h hb12
        refine zblq Hy.1 Hy.2.1 [(.iconst (-2), 2)] (S' := (39, [(0, .inr (.inr (some (12, 0)))), (1, .inl x1), (2, .inl x2), (3, .inl x3), (4, .inl x4), (5, .inl x5)], [.inl (-2 : Int32)], zfR M11)) (b := true) (by decide +kernel) rfl rfl ?_
        cases h
        exact zret_i Hy.1 Hy.2.2 hE (by decide +kernel)
      · replace h := zite_f h hb12
        refine zGo_keep [0, 1, 3, 4, 5] rfl ?_
        exact m12_wrongClaim_19_ok Hy hE x1 x3 x4 x5 M11 h
theorem m12_wrongClaim_met {l : Launch} {G : zG} (hG : zGok G) (hcn : zgcn G = zcR) {x1 : Int32} {x2 : Int32} {x3 : Int32} {x4 : Int32} {x5 : Int32} {M : rM} {r : Int32} {M' : rM} (h : m12_wrongClaim x1 x2 x3 x4 x5 M = some (r, M')) : zMet l G yX12_wrongClaim cX12_wrongClaim 6 (some .int) 2 43 [.inr (.inr (some (12, 0))), .inl x1, .inl x2, .inl x3, .inl x4, .inl x5] (zfR M) (some (.inl r)) (zfR M') :=
  zMet_of hG tbX12_ok rfl (by decide +kernel) (Nat.le_of_ble_eq_true rfl) (fun X _ Z hA hE => m12_wrongClaim_ok ⟨Z, hcn, hA⟩ hE x1 x2 x3 x4 x5 M h)
abbrev q12_isSo : ByteArray × Nat × String × zT := (cX12_isSo, 11, RX12, tbX12)
def m12_isSo_79 (k10 : Int32 → Int32 → Int32 → Int32 → Int32 → Int32 → Int32 → Int32 → rM → Option (Int32 × rM)) (x1 : Int32) (x2 : Int32) (x3 : Int32) (x4 : Int32) (x6 : Int32) (x8 : Int32) (x9 : Int32) (t0 : Int32) (M : rM) : Option (Int32 × rM) := k10 x1 x2 x3 x4 x6 t0 x8 (x9 + (1 : Int32)) M
theorem m12_isSo_79_ok {X : zX} {G : zG} (Hy : zHy X G q12_isSo zcR 1 24 (some .boolean)) {r : Int32} {M' : rM} (hE : zEnd X G (some (.inl r)) (zfR M')) {k10 : Int32 → Int32 → Int32 → Int32 → Int32 → Int32 → Int32 → Int32 → rM → Option (Int32 × rM)} (hk10 : ∀ (x1 : Int32) (x2 : Int32) (x3 : Int32) (x4 : Int32) (x6 : Int32) (x7 : Int32) (x8 : Int32) (x9 : Int32) (M : rM), k10 x1 x2 x3 x4 x6 x7 x8 x9 M = some (r, M') → zGo (X, q12_isSo, G) 0 0 (10, [(0, .inr (.inr (some (12, 0)))), (1, .inl x1), (2, .inl x2), (3, .inl x3), (4, .inl x4), (6, .inl x6), (7, .inl x7), (8, .inl x8), (9, .inl x9)], [], zfR M)) (x1 : Int32) (x2 : Int32) (x3 : Int32) (x4 : Int32) (x6 : Int32) (x8 : Int32) (x9 : Int32) (t0 : Int32) (M : rM) (h : m12_isSo_79 k10 x1 x2 x3 x4 x6 x8 x9 t0 M = some (r, M')) : zGo (X, q12_isSo, G) 0 0 (79, [(0, .inr (.inr (some (12, 0)))), (1, .inl x1), (2, .inl x2), (3, .inl x3), (4, .inl x4), (6, .inl x6), (8, .inl x8), (9, .inl x9)], [.inl t0], zfR M) := by
  unfold m12_isSo_79 at h
  refine zblq Hy.1 Hy.2.1 [(.istore 7, 2), (.iinc 9 1, 3), (.ldc 10, 3)] (S' := (10, [(0, .inr (.inr (some (12, 0)))), (1, .inl x1), (2, .inl x2), (3, .inl x3), (4, .inl x4), (6, .inl x6), (7, .inl t0), (8, .inl x8), (9, .inl (x9 + (1 : Int32)))], [], zfR M)) (b := true) (by decide +kernel) rfl rfl ?_
  refine zGo_keep [0, 1, 2, 3, 4, 6, 7, 8, 9] rfl ?_
  exact hk10 x1 x2 x3 x4 x6 t0 x8 (x9 + (1 : Int32)) M h
def m12_isSo_61 (k10 : Int32 → Int32 → Int32 → Int32 → Int32 → Int32 → Int32 → Int32 → rM → Option (Int32 × rM)) (x1 : Int32) (x2 : Int32) (x3 : Int32) (x4 : Int32) (x6 : Int32) (x7 : Int32) (x9 : Int32) (x10 : Int32) (t0 : Int32) (M : rM) : Option (Int32 × rM) := (if x7 = 0 then (if x10 = x3 then m12_isSo_79 k10 x1 x2 x3 x4 x6 t0 x9 (1 : Int32) M else m12_isSo_79 k10 x1 x2 x3 x4 x6 t0 x9 (0 : Int32) M) else m12_isSo_79 k10 x1 x2 x3 x4 x6 t0 x9 (1 : Int32) M)
theorem m12_isSo_61_ok {X : zX} {G : zG} (Hy : zHy X G q12_isSo zcR 1 24 (some .boolean)) {r : Int32} {M' : rM} (hE : zEnd X G (some (.inl r)) (zfR M')) {k10 : Int32 → Int32 → Int32 → Int32 → Int32 → Int32 → Int32 → Int32 → rM → Option (Int32 × rM)} (hk10 : ∀ (x1 : Int32) (x2 : Int32) (x3 : Int32) (x4 : Int32) (x6 : Int32) (x7 : Int32) (x8 : Int32) (x9 : Int32) (M : rM), k10 x1 x2 x3 x4 x6 x7 x8 x9 M = some (r, M') → zGo (X, q12_isSo, G) 0 0 (10, [(0, .inr (.inr (some (12, 0)))), (1, .inl x1), (2, .inl x2), (3, .inl x3), (4, .inl x4), (6, .inl x6), (7, .inl x7), (8, .inl x8), (9, .inl x9)], [], zfR M)) (x1 : Int32) (x2 : Int32) (x3 : Int32) (x4 : Int32) (x6 : Int32) (x7 : Int32) (x9 : Int32) (x10 : Int32) (t0 : Int32) (M : rM) (h : m12_isSo_61 k10 x1 x2 x3 x4 x6 x7 x9 x10 t0 M = some (r, M')) : zGo (X, q12_isSo, G) 0 0 (61, [(0, .inr (.inr (some (12, 0)))), (1, .inl x1), (2, .inl x2), (3, .inl x3), (4, .inl x4), (6, .inl x6), (7, .inl x7), (9, .inl x9), (10, .inl x10)], [.inl t0], zfR M) := by
  unfold m12_isSo_61 at h
  refine zblq Hy.1 Hy.2.1 [(.istore 8, 2), (.iload 7, 2)] (S' := (65, [(0, .inr (.inr (some (12, 0)))), (1, .inl x1), (2, .inl x2), (3, .inl x3), (4, .inl x4), (6, .inl x6), (7, .inl x7), (8, .inl t0), (9, .inl x9), (10, .inl x10)], [.inl x7], zfR M)) (b := true) (by decide +kernel) rfl rfl ?_
  refine zif_ne Hy.1 (off := 9) (tgt := 74) (by decide +kernel) (by decide) (fun hb4 => ?_) (fun hb4 => ?_)
  · replace h := zite_f h hb4
    refine zblq Hy.1 Hy.2.1 [(.iconst 1, 1), (.ldc 79, 3)] (S' := (79, [(0, .inr (.inr (some (12, 0)))), (1, .inl x1), (2, .inl x2), (3, .inl x3), (4, .inl x4), (6, .inl x6), (7, .inl x7), (8, .inl t0), (9, .inl x9), (10, .inl x10)], [.inl (1 : Int32)], zfR M)) (b := true) (by decide +kernel) rfl rfl ?_
    refine zGo_keep [0, 1, 2, 3, 4, 6, 8, 9] rfl ?_
    exact m12_isSo_79_ok Hy hE hk10 x1 x2 x3 x4 x6 t0 x9 (1 : Int32) M h
  · replace h := zite_t h hb4
    refine zblq Hy.1 Hy.2.1 [(.iload 10, 2), (.iload 3, 1)] (S' := (71, [(0, .inr (.inr (some (12, 0)))), (1, .inl x1), (2, .inl x2), (3, .inl x3), (4, .inl x4), (6, .inl x6), (7, .inl x7), (8, .inl t0), (9, .inl x9), (10, .inl x10)], [.inl x3, .inl x10], zfR M)) (b := true) (by decide +kernel) rfl rfl ?_
    refine zic_ne Hy.1 (off := 7) (tgt := 78) (by decide +kernel) (by decide) (fun hb3 => ?_) (fun hb3 => ?_)
    · replace h := zite_f h hb3
      refine zblq Hy.1 Hy.2.1 [(.iconst 0, 1)] (S' := (79, [(0, .inr (.inr (some (12, 0)))), (1, .inl x1), (2, .inl x2), (3, .inl x3), (4, .inl x4), (6, .inl x6), (7, .inl x7), (8, .inl t0), (9, .inl x9), (10, .inl x10)], [.inl (0 : Int32)], zfR M)) (b := true) (by decide +kernel) rfl rfl ?_
      refine zGo_keep [0, 1, 2, 3, 4, 6, 8, 9] rfl ?_
      exact m12_isSo_79_ok Hy hE hk10 x1 x2 x3 x4 x6 t0 x9 (0 : Int32) M h
    · replace h := zite_t h hb3
      refine zblq Hy.1 Hy.2.1 [(.iconst 1, 1), (.ldc 79, 3)] (S' := (79, [(0, .inr (.inr (some (12, 0)))), (1, .inl x1), (2, .inl x2), (3, .inl x3), (4, .inl x4), (6, .inl x6), (7, .inl x7), (8, .inl t0), (9, .inl x9), (10, .inl x10)], [.inl (1 : Int32)], zfR M)) (b := true) (by decide +kernel) rfl rfl ?_
      refine zGo_keep [0, 1, 2, 3, 4, 6, 8, 9] rfl ?_
      exact m12_isSo_79_ok Hy hE hk10 x1 x2 x3 x4 x6 t0 x9 (1 : Int32) M h
def m12_isSo_10 : Nat → Int32 → Int32 → Int32 → Int32 → Int32 → Int32 → Int32 → Int32 → rM → Option (Int32 × rM)
  | 0, _, _, _, _, _, _, _, _, _ => none
  | n + 1, x1, x2, x3, x4, x6, x7, x8, x9, M => (if x6 < x9 then zgd (zbl x8) (some (x8, M)) else zbd (m12_spotOf x1 x9 M) (fun r2 M2 => (if x8 = 0 then (if x2 = 0 then (if r2 = x3 then m12_isSo_61 (m12_isSo_10 n) x1 x2 x3 x4 x6 x7 x9 r2 (1 : Int32) M2 else m12_isSo_61 (m12_isSo_10 n) x1 x2 x3 x4 x6 x7 x9 r2 (0 : Int32) M2) else (if x7 = 0 then m12_isSo_61 (m12_isSo_10 n) x1 x2 x3 x4 x6 x7 x9 r2 (0 : Int32) M2 else (if r2 = x4 then m12_isSo_61 (m12_isSo_10 n) x1 x2 x3 x4 x6 x7 x9 r2 (1 : Int32) M2 else m12_isSo_61 (m12_isSo_10 n) x1 x2 x3 x4 x6 x7 x9 r2 (0 : Int32) M2))) else m12_isSo_61 (m12_isSo_10 n) x1 x2 x3 x4 x6 x7 x9 r2 (1 : Int32) M2)))
theorem m12_isSo_10_ok {X : zX} {G : zG} (Hy : zHy X G q12_isSo zcR 1 24 (some .boolean)) {r : Int32} {M' : rM} (hE : zEnd X G (some (.inl r)) (zfR M')) : ∀ (n : Nat) (x1 : Int32) (x2 : Int32) (x3 : Int32) (x4 : Int32) (x6 : Int32) (x7 : Int32) (x8 : Int32) (x9 : Int32) (M : rM), m12_isSo_10 n x1 x2 x3 x4 x6 x7 x8 x9 M = some (r, M') → zGo (X, q12_isSo, G) 0 0 (10, [(0, .inr (.inr (some (12, 0)))), (1, .inl x1), (2, .inl x2), (3, .inl x3), (4, .inl x4), (6, .inl x6), (7, .inl x7), (8, .inl x8), (9, .inl x9)], [], zfR M) := by
  intro n
  induction n with
  | zero => intro x1 x2 x3 x4 x6 x7 x8 x9 M h; cases h
  | succ n ih =>
    intro x1 x2 x3 x4 x6 x7 x8 x9 M h
    unfold m12_isSo_10 at h
    refine zblq Hy.1 Hy.2.1 [(.iload 9, 2), (.iload 6, 2)] (S' := (14, [(0, .inr (.inr (some (12, 0)))), (1, .inl x1), (2, .inl x2), (3, .inl x3), (4, .inl x4), (6, .inl x6), (7, .inl x7), (8, .inl x8), (9, .inl x9)], [.inl x6, .inl x9], zfR M)) (b := true) (by decide +kernel) rfl rfl ?_
    refine zic_gt Hy.1 (off := 73) (tgt := 87) (by decide +kernel) (by decide) (fun hb10 => ?_) (fun hb10 => ?_)
    · replace h := zite_t h hb10
      refine zblq Hy.1 Hy.2.1 [(.iload 8, 2)] (S' := (89, [(0, .inr (.inr (some (12, 0)))), (1, .inl x1), (2, .inl x2), (3, .inl x3), (4, .inl x4), (6, .inl x6), (7, .inl x7), (8, .inl x8), (9, .inl x9)], [.inl x8], zfR M)) (b := true) (by decide +kernel) rfl rfl ?_
      obtain ⟨hg1, h⟩ := zgd_inv h
      cases h
      exact zret_z Hy.1 Hy.2.2 hg1 hE (by decide +kernel)
    · replace h := zite_f h hb10
      refine zblq Hy.1 Hy.2.1 [(.aload 0, 1), (.iload 1, 1), (.iload 9, 2)] (S' := (21, [(0, .inr (.inr (some (12, 0)))), (1, .inl x1), (2, .inl x2), (3, .inl x3), (4, .inl x4), (6, .inl x6), (7, .inl x7), (8, .inl x8), (9, .inl x9)], [.inl x9, .inl x1, .inr (.inr (some (12, 0)))], zfR M)) (b := true) (by decide +kernel) rfl rfl ?_
      obtain ⟨r2, M2, hc2, h⟩ := zbd_inv h
      refine zcallV Hy.1 (as := [.inl x1, .inl x9]) (st := []) (m12_spotOf_met (zOK_G Hy.1) Hy.2.1 hc2) cw12_422 m12_spotOf_in m12_spotOf_se (by decide) (zhlv Hy.2.1 rfl) rfl (zroom Hy.2.2 ⟨by decide, by decide⟩) rfl (by decide +kernel) ⟨Nat.zero_le _, Nat.zero_le _⟩ ?_
      refine zblq Hy.1 Hy.2.1 [(.istore 10, 2), (.iload 8, 2)] (S' := (28, [(0, .inr (.inr (some (12, 0)))), (1, .inl x1), (2, .inl x2), (3, .inl x3), (4, .inl x4), (6, .inl x6), (7, .inl x7), (8, .inl x8), (9, .inl x9), (10, .inl r2)], [.inl x8], zfR M2)) (b := true) (by decide +kernel) rfl rfl ?_
      refine zif_ne Hy.1 (off := 28) (tgt := 56) (by decide +kernel) (by decide) (fun hb9 => ?_) (fun hb9 => ?_)
      · replace h := zite_f h hb9
        refine zblq Hy.1 Hy.2.1 [(.iconst 1, 1), (.ldc 61, 3)] (S' := (61, [(0, .inr (.inr (some (12, 0)))), (1, .inl x1), (2, .inl x2), (3, .inl x3), (4, .inl x4), (6, .inl x6), (7, .inl x7), (8, .inl x8), (9, .inl x9), (10, .inl r2)], [.inl (1 : Int32)], zfR M2)) (b := true) (by decide +kernel) rfl rfl ?_
        refine zGo_keep [0, 1, 2, 3, 4, 6, 7, 9, 10] rfl ?_
        exact m12_isSo_61_ok Hy hE ih x1 x2 x3 x4 x6 x7 x9 r2 (1 : Int32) M2 h
      · replace h := zite_t h hb9
        refine zblq Hy.1 Hy.2.1 [(.iload 2, 1)] (S' := (32, [(0, .inr (.inr (some (12, 0)))), (1, .inl x1), (2, .inl x2), (3, .inl x3), (4, .inl x4), (6, .inl x6), (7, .inl x7), (8, .inl x8), (9, .inl x9), (10, .inl r2)], [.inl x2], zfR M2)) (b := true) (by decide +kernel) rfl rfl ?_
        refine zif_ne Hy.1 (off := 12) (tgt := 44) (by decide +kernel) (by decide) (fun hb8 => ?_) (fun hb8 => ?_)
        · replace h := zite_f h hb8
          refine zblq Hy.1 Hy.2.1 [(.iload 7, 2)] (S' := (46, [(0, .inr (.inr (some (12, 0)))), (1, .inl x1), (2, .inl x2), (3, .inl x3), (4, .inl x4), (6, .inl x6), (7, .inl x7), (8, .inl x8), (9, .inl x9), (10, .inl r2)], [.inl x7], zfR M2)) (b := true) (by decide +kernel) rfl rfl ?_
          refine zif_eq Hy.1 (off := 14) (tgt := 60) (by decide +kernel) (by decide) (fun hb6 => ?_) (fun hb6 => ?_)
          · replace h := zite_t h hb6
            refine zblq Hy.1 Hy.2.1 [(.iconst 0, 1)] (S' := (61, [(0, .inr (.inr (some (12, 0)))), (1, .inl x1), (2, .inl x2), (3, .inl x3), (4, .inl x4), (6, .inl x6), (7, .inl x7), (8, .inl x8), (9, .inl x9), (10, .inl r2)], [.inl (0 : Int32)], zfR M2)) (b := true) (by decide +kernel) rfl rfl ?_
            refine zGo_keep [0, 1, 2, 3, 4, 6, 7, 9, 10] rfl ?_
            exact m12_isSo_61_ok Hy hE ih x1 x2 x3 x4 x6 x7 x9 r2 (0 : Int32) M2 h
          · replace h := zite_f h hb6
            refine zblq Hy.1 Hy.2.1 [(.iload 10, 2), (.iload 4, 2)] (S' := (53, [(0, .inr (.inr (some (12, 0)))), (1, .inl x1), (2, .inl x2), (3, .inl x3), (4, .inl x4), (6, .inl x6), (7, .inl x7), (8, .inl x8), (9, .inl x9), (10, .inl r2)], [.inl x4, .inl r2], zfR M2)) (b := true) (by decide +kernel) rfl rfl ?_
            refine zic_ne Hy.1 (off := 7) (tgt := 60) (by decide +kernel) (by decide) (fun hb5 => ?_) (fun hb5 => ?_)
            · replace h := zite_f h hb5
              refine zblq Hy.1 Hy.2.1 [(.iconst 0, 1)] (S' := (61, [(0, .inr (.inr (some (12, 0)))), (1, .inl x1), (2, .inl x2), (3, .inl x3), (4, .inl x4), (6, .inl x6), (7, .inl x7), (8, .inl x8), (9, .inl x9), (10, .inl r2)], [.inl (0 : Int32)], zfR M2)) (b := true) (by decide +kernel) rfl rfl ?_
              refine zGo_keep [0, 1, 2, 3, 4, 6, 7, 9, 10] rfl ?_
              exact m12_isSo_61_ok Hy hE ih x1 x2 x3 x4 x6 x7 x9 r2 (0 : Int32) M2 h
            · replace h := zite_t h hb5
              refine zblq Hy.1 Hy.2.1 [(.iconst 1, 1), (.ldc 61, 3)] (S' := (61, [(0, .inr (.inr (some (12, 0)))), (1, .inl x1), (2, .inl x2), (3, .inl x3), (4, .inl x4), (6, .inl x6), (7, .inl x7), (8, .inl x8), (9, .inl x9), (10, .inl r2)], [.inl (1 : Int32)], zfR M2)) (b := true) (by decide +kernel) rfl rfl ?_
              refine zGo_keep [0, 1, 2, 3, 4, 6, 7, 9, 10] rfl ?_
              exact m12_isSo_61_ok Hy hE ih x1 x2 x3 x4 x6 x7 x9 r2 (1 : Int32) M2 h
        · replace h := zite_t h hb8
          refine zblq Hy.1 Hy.2.1 [(.iload 10, 2), (.iload 3, 1)] (S' := (38, [(0, .inr (.inr (some (12, 0)))), (1, .inl x1), (2, .inl x2), (3, .inl x3), (4, .inl x4), (6, .inl x6), (7, .inl x7), (8, .inl x8), (9, .inl x9), (10, .inl r2)], [.inl x3, .inl r2], zfR M2)) (b := true) (by decide +kernel) rfl rfl ?_
          refine zic_ne Hy.1 (off := 22) (tgt := 60) (by decide +kernel) (by decide) (fun hb7 => ?_) (fun hb7 => ?_)
          · replace h := zite_f h hb7
            refine zblq Hy.1 Hy.2.1 [(.iconst 0, 1)] (S' := (61, [(0, .inr (.inr (some (12, 0)))), (1, .inl x1), (2, .inl x2), (3, .inl x3), (4, .inl x4), (6, .inl x6), (7, .inl x7), (8, .inl x8), (9, .inl x9), (10, .inl r2)], [.inl (0 : Int32)], zfR M2)) (b := true) (by decide +kernel) rfl rfl ?_
            refine zGo_keep [0, 1, 2, 3, 4, 6, 7, 9, 10] rfl ?_
            exact m12_isSo_61_ok Hy hE ih x1 x2 x3 x4 x6 x7 x9 r2 (0 : Int32) M2 h
          · replace h := zite_t h hb7
            refine zblq Hy.1 Hy.2.1 [(.ldc 56, 3), (.iconst 1, 1), (.ldc 61, 3)] (S' := (61, [(0, .inr (.inr (some (12, 0)))), (1, .inl x1), (2, .inl x2), (3, .inl x3), (4, .inl x4), (6, .inl x6), (7, .inl x7), (8, .inl x8), (9, .inl x9), (10, .inl r2)], [.inl (1 : Int32)], zfR M2)) (b := true) (by decide +kernel) rfl rfl ?_
            refine zGo_keep [0, 1, 2, 3, 4, 6, 7, 9, 10] rfl ?_
            exact m12_isSo_61_ok Hy hE ih x1 x2 x3 x4 x6 x7 x9 r2 (1 : Int32) M2 h
def m12_isSo (x1 : Int32) (x2 : Int32) (x3 : Int32) (x4 : Int32) (x5 : Int32) (x6 : Int32) (M : rM) : Option (Int32 × rM) := m12_isSo_10 zfu x1 x2 x3 x4 x6 (0 : Int32) (0 : Int32) x5 M
theorem m12_isSo_ok {X : zX} {G : zG} (Hy : zHy X G q12_isSo zcR 1 24 (some .boolean)) {r : Int32} {M' : rM} (hE : zEnd X G (some (.inl r)) (zfR M')) (x1 : Int32) (x2 : Int32) (x3 : Int32) (x4 : Int32) (x5 : Int32) (x6 : Int32) (M : rM) (h : m12_isSo x1 x2 x3 x4 x5 x6 M = some (r, M')) : zGo (X, q12_isSo, G) 0 0 (0, [(0, .inr (.inr (some (12, 0)))), (1, .inl x1), (2, .inl x2), (3, .inl x3), (4, .inl x4), (5, .inl x5), (6, .inl x6)], [], zfR M) := by
  unfold m12_isSo at h
  refine zblq Hy.1 Hy.2.1 [(.iconst 0, 1), (.istore 7, 2), (.iconst 0, 1), (.istore 8, 2), (.iload 5, 2), (.istore 9, 2)] (S' := (10, [(0, .inr (.inr (some (12, 0)))), (1, .inl x1), (2, .inl x2), (3, .inl x3), (4, .inl x4), (5, .inl x5), (6, .inl x6), (7, .inl (0 : Int32)), (8, .inl (0 : Int32)), (9, .inl x5)], [], zfR M)) (b := true) (by decide +kernel) rfl rfl ?_
  refine zGo_keep [0, 1, 2, 3, 4, 6, 7, 8, 9] rfl ?_
  exact m12_isSo_10_ok Hy hE zfu x1 x2 x3 x4 x6 (0 : Int32) (0 : Int32) x5 M h
theorem m12_isSo_met {l : Launch} {G : zG} (hG : zGok G) (hcn : zgcn G = zcR) {x1 : Int32} {x2 : Int32} {x3 : Int32} {x4 : Int32} {x5 : Int32} {x6 : Int32} {M : rM} {r : Int32} {M' : rM} (h : m12_isSo x1 x2 x3 x4 x5 x6 M = some (r, M')) : zMet l G yX12_isSo cX12_isSo 11 (some .boolean) 1 24 [.inr (.inr (some (12, 0))), .inl x1, .inl x2, .inl x3, .inl x4, .inl x5, .inl x6] (zfR M) (some (.inl r)) (zfR M') :=
  zMet_of hG tbX12_ok rfl (by decide +kernel) (Nat.le_of_ble_eq_true rfl) (fun X _ Z hA hE => m12_isSo_ok ⟨Z, hcn, hA⟩ hE x1 x2 x3 x4 x5 x6 M h)
abbrev q12_judge : ByteArray × Nat × String × zT := (cX12_judge, 9, RX12, tbX12)
def m12_judge_73 (k36 : Int32 → Int32 → Int32 → Int32 → Int32 → Int32 → Int32 → rM → Option (Int32 × rM)) (x1 : Int32) (x2 : Int32) (x3 : Int32) (x4 : Int32) (x5 : Int32) (x8 : Int32) (t0 : Int32) (t1 : Int32) (M : rM) : Option (Int32 × rM) := k36 x1 x2 x3 x4 x5 (t0 + t1) (x8 + (1 : Int32)) M
theorem m12_judge_73_ok {X : zX} {G : zG} (Hy : zHy X G q12_judge zcR 3 74 (some .int)) {r : Int32} {M' : rM} (hE : zEnd X G (some (.inl r)) (zfR M')) {k36 : Int32 → Int32 → Int32 → Int32 → Int32 → Int32 → Int32 → rM → Option (Int32 × rM)} (hk36 : ∀ (x1 : Int32) (x2 : Int32) (x3 : Int32) (x4 : Int32) (x5 : Int32) (x7 : Int32) (x8 : Int32) (M : rM), k36 x1 x2 x3 x4 x5 x7 x8 M = some (r, M') → zGo (X, q12_judge, G) 0 0 (36, [(0, .inr (.inr (some (12, 0)))), (1, .inl x1), (2, .inl x2), (3, .inl x3), (4, .inl x4), (5, .inl x5), (7, .inl x7), (8, .inl x8)], [], zfR M)) (x1 : Int32) (x2 : Int32) (x3 : Int32) (x4 : Int32) (x5 : Int32) (x8 : Int32) (t0 : Int32) (t1 : Int32) (M : rM) (h : m12_judge_73 k36 x1 x2 x3 x4 x5 x8 t0 t1 M = some (r, M')) : zGo (X, q12_judge, G) 0 0 (73, [(0, .inr (.inr (some (12, 0)))), (1, .inl x1), (2, .inl x2), (3, .inl x3), (4, .inl x4), (5, .inl x5), (8, .inl x8)], [.inl t1, .inl t0], zfR M) := by
  unfold m12_judge_73 at h
  refine zblq Hy.1 Hy.2.1 [(.iadd, 1), (.istore 7, 2), (.iinc 8 1, 3), (.ldc 36, 3)] (S' := (36, [(0, .inr (.inr (some (12, 0)))), (1, .inl x1), (2, .inl x2), (3, .inl x3), (4, .inl x4), (5, .inl x5), (7, .inl (t0 + t1)), (8, .inl (x8 + (1 : Int32)))], [], zfR M)) (b := true) (by decide +kernel) rfl rfl ?_
  refine zGo_keep [0, 1, 2, 3, 4, 5, 7, 8] rfl ?_
  exact hk36 x1 x2 x3 x4 x5 (t0 + t1) (x8 + (1 : Int32)) M h
def m12_judge_36 : Nat → Int32 → Int32 → Int32 → Int32 → Int32 → Int32 → Int32 → rM → Option (Int32 × rM)
  | 0, _, _, _, _, _, _, _, _ => none
  | n + 1, x1, x2, x3, x4, x5, x7, x8, M => (if (rg M 12 0 72) ≤ x8 then (if (rg M 12 0 72) = 0 then some ((3 : Int32), M) else (if x7 = (rg M 12 0 72) then some ((1 : Int32), M) else (if x7 = 0 then some ((0 : Int32), M) else some ((2 : Int32), M)))) else zgd (zin x8 7776 && true) (zbd (m12_isSo (rg M 1373 0 (nx x8)) x1 x2 x3 x4 x5 M) (fun r7 M7 => (if r7 = 0 then m12_judge_73 (m12_judge_36 n) x1 x2 x3 x4 x5 x8 x7 (0 : Int32) M7 else m12_judge_73 (m12_judge_36 n) x1 x2 x3 x4 x5 x8 x7 (1 : Int32) M7))))
theorem m12_judge_36_ok {X : zX} {G : zG} (Hy : zHy X G q12_judge zcR 3 74 (some .int)) {r : Int32} {M' : rM} (hE : zEnd X G (some (.inl r)) (zfR M')) : ∀ (n : Nat) (x1 : Int32) (x2 : Int32) (x3 : Int32) (x4 : Int32) (x5 : Int32) (x7 : Int32) (x8 : Int32) (M : rM), m12_judge_36 n x1 x2 x3 x4 x5 x7 x8 M = some (r, M') → zGo (X, q12_judge, G) 0 0 (36, [(0, .inr (.inr (some (12, 0)))), (1, .inl x1), (2, .inl x2), (3, .inl x3), (4, .inl x4), (5, .inl x5), (7, .inl x7), (8, .inl x8)], [], zfR M) := by
  intro n
  induction n with
  | zero => intro x1 x2 x3 x4 x5 x7 x8 M h; cases h
  | succ n ih =>
    intro x1 x2 x3 x4 x5 x7 x8 M h
    unfold m12_judge_36 at h
    refine zblq Hy.1 Hy.2.1 [(.iload 8, 2), (.aload 0, 1), (.multianewarray 12 72, 3)] (S' := (42, [(0, .inr (.inr (some (12, 0)))), (1, .inl x1), (2, .inl x2), (3, .inl x3), (4, .inl x4), (5, .inl x5), (7, .inl x7), (8, .inl x8)], [.inl (rg M 12 0 72), .inl x8], zfR M)) (b := true) (by decide +kernel) rfl rfl ?_
    refine zic_ge Hy.1 (off := 40) (tgt := 82) (by decide +kernel) (by decide) (fun hb9 => ?_) (fun hb9 => ?_)
    · replace h := zite_t h hb9
      refine zblq Hy.1 Hy.2.1 [(.aload 0, 1), (.multianewarray 12 72, 3)] (S' := (86, [(0, .inr (.inr (some (12, 0)))), (1, .inl x1), (2, .inl x2), (3, .inl x3), (4, .inl x4), (5, .inl x5), (7, .inl x7), (8, .inl x8)], [.inl (rg M 12 0 72)], zfR M)) (b := true) (by decide +kernel) rfl rfl ?_
      refine zif_ne Hy.1 (off := 7) (tgt := 93) (by decide +kernel) (by decide) (fun hb5 => ?_) (fun hb5 => ?_)
      · replace h := zite_f h hb5
        refine zblq Hy.1 Hy.2.1 [(.iload 7, 2), (.aload 0, 1), (.multianewarray 12 72, 3)] (S' := (99, [(0, .inr (.inr (some (12, 0)))), (1, .inl x1), (2, .inl x2), (3, .inl x3), (4, .inl x4), (5, .inl x5), (7, .inl x7), (8, .inl x8)], [.inl (rg M 12 0 72), .inl x7], zfR M)) (b := true) (by decide +kernel) rfl rfl ?_
        refine zic_ne Hy.1 (off := 7) (tgt := 106) (by decide +kernel) (by decide) (fun hb4 => ?_) (fun hb4 => ?_)
        · replace h := zite_f h hb4
          refine zblq Hy.1 Hy.2.1 [(.iload 7, 2)] (S' := (108, [(0, .inr (.inr (some (12, 0)))), (1, .inl x1), (2, .inl x2), (3, .inl x3), (4, .inl x4), (5, .inl x5), (7, .inl x7), (8, .inl x8)], [.inl x7], zfR M)) (b := true) (by decide +kernel) rfl rfl ?_
          refine zif_ne Hy.1 (off := 7) (tgt := 115) (by decide +kernel) (by decide) (fun hb3 => ?_) (fun hb3 => ?_)
          · replace h := zite_f h hb3
            refine zblq Hy.1 Hy.2.1 [(.iconst 2, 1)] (S' := (116, [(0, .inr (.inr (some (12, 0)))), (1, .inl x1), (2, .inl x2), (3, .inl x3), (4, .inl x4), (5, .inl x5), (7, .inl x7), (8, .inl x8)], [.inl (2 : Int32)], zfR M)) (b := true) (by decide +kernel) rfl rfl ?_
            cases h
            exact zret_i Hy.1 Hy.2.2 hE (by decide +kernel)
          · replace h := zite_t h hb3
            refine zblq Hy.1 Hy.2.1 [(.iconst 0, 1), (.ldc 116, 3)] (S' := (116, [(0, .inr (.inr (some (12, 0)))), (1, .inl x1), (2, .inl x2), (3, .inl x3), (4, .inl x4), (5, .inl x5), (7, .inl x7), (8, .inl x8)], [.inl (0 : Int32)], zfR M)) (b := true) (by decide +kernel) rfl rfl ?_
            cases h
            exact zret_i Hy.1 Hy.2.2 hE (by decide +kernel)
        · replace h := zite_t h hb4
          refine zblq Hy.1 Hy.2.1 [(.iconst 1, 1), (.ldc 116, 3)] (S' := (116, [(0, .inr (.inr (some (12, 0)))), (1, .inl x1), (2, .inl x2), (3, .inl x3), (4, .inl x4), (5, .inl x5), (7, .inl x7), (8, .inl x8)], [.inl (1 : Int32)], zfR M)) (b := true) (by decide +kernel) rfl rfl ?_
          cases h
          exact zret_i Hy.1 Hy.2.2 hE (by decide +kernel)
      · replace h := zite_t h hb5
        refine zblq Hy.1 Hy.2.1 [(.iconst 3, 1), (.ldc 116, 3)] (S' := (116, [(0, .inr (.inr (some (12, 0)))), (1, .inl x1), (2, .inl x2), (3, .inl x3), (4, .inl x4), (5, .inl x5), (7, .inl x7), (8, .inl x8)], [.inl (3 : Int32)], zfR M)) (b := true) (by decide +kernel) rfl rfl ?_
        cases h
        exact zret_i Hy.1 Hy.2.2 hE (by decide +kernel)
    · replace h := zite_f h hb9
      obtain ⟨hg6, h⟩ := zgd_inv h
      refine zblq Hy.1 Hy.2.1 [(.iload 7, 2), (.aload 0, 1), (.aload 0, 1), (.getfield 1273, 3), (.iload 8, 2), (.iaload, 1), (.iload 1, 1), (.iload 2, 1), (.iload 3, 1), (.iload 4, 2), (.iload 5, 2)] (S' := (62, [(0, .inr (.inr (some (12, 0)))), (1, .inl x1), (2, .inl x2), (3, .inl x3), (4, .inl x4), (5, .inl x5), (7, .inl x7), (8, .inl x8)], [.inl x5, .inl x4, .inl x3, .inl x2, .inl x1, .inl (rg M 1373 0 (nx x8)), .inr (.inr (some (12, 0))), .inl x7], zfR M)) (b := zin x8 7776 && true) (by decide +kernel) rfl hg6 ?_
      obtain ⟨r7, M7, hc7, h⟩ := zbd_inv h
      refine zcallV Hy.1 (as := [.inl (rg M 1373 0 (nx x8)), .inl x1, .inl x2, .inl x3, .inl x4, .inl x5]) (st := [.inl x7]) (m12_isSo_met (zOK_G Hy.1) Hy.2.1 hc7) cw12_441 m12_isSo_in m12_isSo_se (by decide) (zhlv Hy.2.1 rfl) rfl (zroom Hy.2.2 ⟨by decide, by decide⟩) rfl (by decide +kernel) ⟨Nat.zero_le _, Nat.zero_le _⟩ ?_
      refine zif_eq Hy.1 (off := 7) (tgt := 72) (by decide +kernel) (by decide) (fun hb8 => ?_) (fun hb8 => ?_)
      · replace h := zite_t h hb8
        refine zblq Hy.1 Hy.2.1 [(.iconst 0, 1)] (S' := (73, [(0, .inr (.inr (some (12, 0)))), (1, .inl x1), (2, .inl x2), (3, .inl x3), (4, .inl x4), (5, .inl x5), (7, .inl x7), (8, .inl x8)], [.inl (0 : Int32), .inl x7], zfR M7)) (b := true) (by decide +kernel) rfl rfl ?_
        refine zGo_keep [0, 1, 2, 3, 4, 5, 8] rfl ?_
        exact m12_judge_73_ok Hy hE ih x1 x2 x3 x4 x5 x8 x7 (0 : Int32) M7 h
      · replace h := zite_f h hb8
        refine zblq Hy.1 Hy.2.1 [(.iconst 1, 1), (.ldc 73, 3)] (S' := (73, [(0, .inr (.inr (some (12, 0)))), (1, .inl x1), (2, .inl x2), (3, .inl x3), (4, .inl x4), (5, .inl x5), (7, .inl x7), (8, .inl x8)], [.inl (1 : Int32), .inl x7], zfR M7)) (b := true) (by decide +kernel) rfl rfl ?_
        refine zGo_keep [0, 1, 2, 3, 4, 5, 8] rfl ?_
        exact m12_judge_73_ok Hy hE ih x1 x2 x3 x4 x5 x8 x7 (1 : Int32) M7 h
def m12_judge (x1 : Int32) (x2 : Int32) (x3 : Int32) (x4 : Int32) (x5 : Int32) (M : rM) : Option (Int32 × rM) := zbd (m12_wrongClaim x1 x2 x3 x4 x5 M) (fun r1 M1 => (if r1 = (1 : Int32) then zbv (m12_findCourses (rg M1 12 0 71) M1) (fun M2 => m12_judge_36 zfu x1 x2 x3 x4 x5 (0 : Int32) (0 : Int32) M2) else some (r1, M1)))
theorem m12_judge_ok {X : zX} {G : zG} (Hy : zHy X G q12_judge zcR 3 74 (some .int)) {r : Int32} {M' : rM} (hE : zEnd X G (some (.inl r)) (zfR M')) (x1 : Int32) (x2 : Int32) (x3 : Int32) (x4 : Int32) (x5 : Int32) (M : rM) (h : m12_judge x1 x2 x3 x4 x5 M = some (r, M')) : zGo (X, q12_judge, G) 0 0 (0, [(0, .inr (.inr (some (12, 0)))), (1, .inl x1), (2, .inl x2), (3, .inl x3), (4, .inl x4), (5, .inl x5)], [], zfR M) := by
  unfold m12_judge at h
  refine zblq Hy.1 Hy.2.1 [(.aload 0, 1), (.iload 1, 1), (.iload 2, 1), (.iload 3, 1), (.iload 4, 2), (.iload 5, 2)] (S' := (8, [(0, .inr (.inr (some (12, 0)))), (1, .inl x1), (2, .inl x2), (3, .inl x3), (4, .inl x4), (5, .inl x5)], [.inl x5, .inl x4, .inl x3, .inl x2, .inl x1, .inr (.inr (some (12, 0)))], zfR M)) (b := true) (by decide +kernel) rfl rfl ?_
  obtain ⟨r1, M1, hc1, h⟩ := zbd_inv h
  refine zcallV Hy.1 (as := [.inl x1, .inl x2, .inl x3, .inl x4, .inl x5]) (st := []) (m12_wrongClaim_met (zOK_G Hy.1) Hy.2.1 hc1) cw12_437 m12_wrongClaim_in m12_wrongClaim_se (by decide) (zhlv Hy.2.1 rfl) rfl (zroom Hy.2.2 ⟨by decide, by decide⟩) rfl (by decide +kernel) ⟨Nat.zero_le _, Nat.zero_le _⟩ ?_
  refine zblq Hy.1 Hy.2.1 [(.istore 6, 2), (.iload 6, 2), (.iconst 1, 1)] (S' := (16, [(0, .inr (.inr (some (12, 0)))), (1, .inl x1), (2, .inl x2), (3, .inl x3), (4, .inl x4), (5, .inl x5), (6, .inl r1)], [.inl (1 : Int32), .inl r1], zfR M1)) (b := true) (by decide +kernel) rfl rfl ?_
  refine zic_eq Hy.1 (off := 6) (tgt := 22) (by decide +kernel) (by decide) (fun hb10 => ?_) (fun hb10 => ?_)
  · replace h := zite_t h hb10
    refine zblq Hy.1 Hy.2.1 [(.aload 0, 1), (.aload 0, 1), (.multianewarray 12 71, 3)] (S' := (27, [(0, .inr (.inr (some (12, 0)))), (1, .inl x1), (2, .inl x2), (3, .inl x3), (4, .inl x4), (5, .inl x5), (6, .inl r1)], [.inl (rg M1 12 0 71), .inr (.inr (some (12, 0)))], zfR M1)) (b := true) (by decide +kernel) rfl rfl ?_
    obtain ⟨M2, hc2, h⟩ := zbv_inv h
    refine zcallV Hy.1 (as := [.inl (rg M1 12 0 71)]) (st := []) (m12_findCourses_met (zOK_G Hy.1) Hy.2.1 hc2) cw12_434 m12_findCourses_in m12_findCourses_se (by decide) (zhlv Hy.2.1 rfl) rfl (zroom Hy.2.2 ⟨by decide, by decide⟩) rfl (by decide +kernel) ⟨Nat.zero_le _, Nat.zero_le _⟩ ?_
    refine zblq Hy.1 Hy.2.1 [(.iconst 0, 1), (.istore 7, 2), (.iconst 0, 1), (.istore 8, 2)] (S' := (36, [(0, .inr (.inr (some (12, 0)))), (1, .inl x1), (2, .inl x2), (3, .inl x3), (4, .inl x4), (5, .inl x5), (6, .inl r1), (7, .inl (0 : Int32)), (8, .inl (0 : Int32))], [], zfR M2)) (b := true) (by decide +kernel) rfl rfl ?_
    refine zGo_keep [0, 1, 2, 3, 4, 5, 7, 8] rfl ?_
    exact m12_judge_36_ok Hy hE zfu x1 x2 x3 x4 x5 (0 : Int32) (0 : Int32) M2 h
  · replace h := zite_f h hb10
    refine zblq Hy.1 Hy.2.1 [(.iload 6, 2)] (S' := (21, [(0, .inr (.inr (some (12, 0)))), (1, .inl x1), (2, .inl x2), (3, .inl x3), (4, .inl x4), (5, .inl x5), (6, .inl r1)], [.inl r1], zfR M1)) (b := true) (by decide +kernel) rfl rfl ?_
    cases h
    exact zret_i Hy.1 Hy.2.2 hE (by decide +kernel)
theorem m12_judge_met {l : Launch} {G : zG} (hG : zGok G) (hcn : zgcn G = zcR) {x1 : Int32} {x2 : Int32} {x3 : Int32} {x4 : Int32} {x5 : Int32} {M : rM} {r : Int32} {M' : rM} (h : m12_judge x1 x2 x3 x4 x5 M = some (r, M')) : zMet l G yX12_judge cX12_judge 9 (some .int) 3 74 [.inr (.inr (some (12, 0))), .inl x1, .inl x2, .inl x3, .inl x4, .inl x5] (zfR M) (some (.inl r)) (zfR M') :=
  zMet_of hG tbX12_ok rfl (by decide +kernel) (Nat.le_of_ble_eq_true rfl) (fun X _ Z hA hE => m12_judge_ok ⟨Z, hcn, hA⟩ hE x1 x2 x3 x4 x5 M h)
