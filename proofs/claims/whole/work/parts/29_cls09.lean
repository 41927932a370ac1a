abbrev q4_layWay : ByteArray × Nat × String × zT := (cX4_layWay, 5, RX4, tbX4)
def m4_layWay_99 (x4 : Int32) (t1 : Int32) (t2 : Int32) (M : cM) : Option (Int32 × cM) := zgd (zin t1 6 && true) (some (x4, cs M 505 0 (nx t1) t2))
theorem m4_layWay_99_ok {X : zX} {G : zG} (Hy : zHy X G q4_layWay zcC 1 21 (some .int)) {r : Int32} {M' : cM} (hE : zEnd X G (some (.inl r)) (zfC M')) (x4 : Int32) (t1 : Int32) (t2 : Int32) (M : cM) (h : m4_layWay_99 x4 t1 t2 M = some (r, M')) : zGo (X, q4_layWay, G) 0 0 (99, [(4, .inl x4)], [.inl t2, .inl t1, .inr (.inr (some (505, 0)))], zfC M) := by
  unfold m4_layWay_99 at h
  obtain ⟨hg7, h⟩ := zgd_inv h
  refine zblq Hy.1 Hy.2.1 [(.iastore, 1), (.iload 4, 2)] (S' := (102, [(4, .inl x4)], [.inl x4], zfC (cs M 505 0 (nx t1) t2))) (b := zin t1 6 && true) (by decide +kernel) rfl hg7 ?_
  cases h
  exact zret_i Hy.1 Hy.2.2 hE (by decide +kernel)
def m4_layWay_64 (x1 : Int32) (x2 : Int32) (x3 : Int32) (x4 : Int32) (t1 : Int32) (t2 : Int32) (M : cM) : Option (Int32 × cM) := zgd (zin t1 6 && true) ((if x3 = 0 then zgd (zin x2 6 && true) (m4_layWay_99 x4 x2 ((cg (cs M 505 0 (nx t1) t2) 505 0 (nx x2)) &&& ((zshl (1 : Int32) x1) ^^^ (-1 : Int32))) (cs M 505 0 (nx t1) t2)) else zgd (zin x2 6 && true) (m4_layWay_99 x4 x2 ((cg (cs M 505 0 (nx t1) t2) 505 0 (nx x2)) ||| (zshl (1 : Int32) x1)) (cs M 505 0 (nx t1) t2))))
theorem m4_layWay_64_ok {X : zX} {G : zG} (Hy : zHy X G q4_layWay zcC 1 21 (some .int)) {r : Int32} {M' : cM} (hE : zEnd X G (some (.inl r)) (zfC M')) (x1 : Int32) (x2 : Int32) (x3 : Int32) (x4 : Int32) (t1 : Int32) (t2 : Int32) (M : cM) (h : m4_layWay_64 x1 x2 x3 x4 t1 t2 M = some (r, M')) : zGo (X, q4_layWay, G) 0 0 (64, [(0, .inr (.inr (some (4, 0)))), (1, .inl x1), (2, .inl x2), (3, .inl x3), (4, .inl x4)], [.inl t2, .inl t1, .inr (.inr (some (505, 0)))], zfC M) := by
  unfold m4_layWay_64 at h
  obtain ⟨hg5, h⟩ := zgd_inv h
  refine zblq Hy.1 Hy.2.1 [(.iastore, 1), (.aload 0, 1), (.getfield 405, 3), (.iload 2, 1), (.iload 3, 1)] (S' := (71, [(0, .inr (.inr (some (4, 0)))), (1, .inl x1), (2, .inl x2), (3, .inl x3), (4, .inl x4)], [.inl x3, .inl x2, .inr (.inr (some (505, 0)))], zfC (cs M 505 0 (nx t1) t2))) (b := zin t1 6 && true) (by decide +kernel) rfl hg5 ?_
  refine zif_eq Hy.1 (off := 16) (tgt := 87) (by decide +kernel) (by decide) (fun hb9 => ?_) (fun hb9 => ?_)
  · replace h := zite_t h hb9
    obtain ⟨hg6, h⟩ := zgd_inv h
    refine zblq Hy.1 Hy.2.1 [(.aload 0, 1), (.getfield 405, 3), (.iload 2, 1), (.iaload, 1), (.iconst 1, 1), (.iload 1, 1), (.ishl, 1), (.iconst (-1), 1), (.ixor, 1), (.iand, 1)] (S' := (99, [(0, .inr (.inr (some (4, 0)))), (1, .inl x1), (2, .inl x2), (3, .inl x3), (4, .inl x4)], [.inl ((cg (cs M 505 0 (nx t1) t2) 505 0 (nx x2)) &&& ((zshl (1 : Int32) x1) ^^^ (-1 : Int32))), .inl x2, .inr (.inr (some (505, 0)))], zfC (cs M 505 0 (nx t1) t2))) (b := zin x2 6 && true) (by decide +kernel) rfl hg6 ?_
    refine zGo_keep [4] rfl ?_
    exact m4_layWay_99_ok Hy hE x4 x2 ((cg (cs M 505 0 (nx t1) t2) 505 0 (nx x2)) &&& ((zshl (1 : Int32) x1) ^^^ (-1 : Int32))) (cs M 505 0 (nx t1) t2) h
  · replace h := zite_f h hb9
    obtain ⟨hg8, h⟩ := zgd_inv h
    refine zblq Hy.1 Hy.2.1 [(.aload 0, 1), (.getfield 405, 3), (.iload 2, 1), (.iaload, 1), (.iconst 1, 1), (.iload 1, 1), (.ishl, 1), (.ior, 1), (.ldc 99, 3)] (S' := (99, [(0, .inr (.inr (some (4, 0)))), (1, .inl x1), (2, .inl x2), (3, .inl x3), (4, .inl x4)], [.inl ((cg (cs M 505 0 (nx t1) t2) 505 0 (nx x2)) ||| (zshl (1 : Int32) x1)), .inl x2, .inr (.inr (some (505, 0)))], zfC (cs M 505 0 (nx t1) t2))) (b := zin x2 6 && true) (by decide +kernel) rfl hg8 ?_
    refine zGo_keep [4] rfl ?_
    exact m4_layWay_99_ok Hy hE x4 x2 ((cg (cs M 505 0 (nx t1) t2) 505 0 (nx x2)) ||| (zshl (1 : Int32) x1)) (cs M 505 0 (nx t1) t2) h
def m4_layWay (x1 : Int32) (x2 : Int32) (x3 : Int32) (M : cM) : Option (Int32 × cM) := zbd (m4_hasSpot x1 M) (fun r1 M1 => (if r1 = 0 then some ((0 : Int32), M1) else zbd (m4_hasSpot x2 M1) (fun r2 M2 => (if r2 = 0 then some ((0 : Int32), M2) else zgd (zin x1 6 && true) ((if x3 = 0 then zgd (zin x1 6 && true) (m4_layWay_64 x1 x2 x3 ((zshr (cg M2 505 0 (nx x1)) x2) &&& (1 : Int32)) x1 ((cg M2 505 0 (nx x1)) &&& ((zshl (1 : Int32) x2) ^^^ (-1 : Int32))) M2) else zgd (zin x1 6 && true) (m4_layWay_64 x1 x2 x3 ((zshr (cg M2 505 0 (nx x1)) x2) &&& (1 : Int32)) x1 ((cg M2 505 0 (nx x1)) ||| (zshl (1 : Int32) x2)) M2)))))))
theorem m4_layWay_ok {X : zX} {G : zG} (Hy : zHy X G q4_layWay zcC 1 21 (some .int)) {r : Int32} {M' : cM} (hE : zEnd X G (some (.inl r)) (zfC M')) (x1 : Int32) (x2 : Int32) (x3 : Int32) (M : cM) (h : m4_layWay x1 x2 x3 M = some (r, M')) : zGo (X, q4_layWay, G) 0 0 (0, [(0, .inr (.inr (some (4, 0)))), (1, .inl x1), (2, .inl x2), (3, .inl x3)], [], zfC M) := by
  unfold m4_layWay at h
  refine zblq Hy.1 Hy.2.1 [(.aload 0, 1), (.iload 1, 1)] (S' := (2, [(0, .inr (.inr (some (4, 0)))), (1, .inl x1), (2, .inl x2), (3, .inl x3)], [.inl x1, .inr (.inr (some (4, 0)))], zfC M)) (b := true) (by decide +kernel) rfl rfl ?_
  obtain ⟨r1, M1, hc1, h⟩ := zbd_inv h
  refine zcallV Hy.1 (as := [.inl x1]) (st := []) (m4_hasSpot_met (zOK_G Hy.1) Hy.2.1 hc1) cw4_56 m4_hasSpot_in m4_hasSpot_se (by decide) (zhlv Hy.2.1 rfl) rfl (zroom Hy.2.2 ⟨by decide, by decide⟩) rfl (by decide +kernel) ⟨Nat.zero_le _, Nat.zero_le _⟩ ?_
  refine zif_eq Hy.1 (off := 11) (tgt := 16) (by decide +kernel) (by decide) (fun hb13 => ?_) (fun hb13 => ?_)
  · replace h := zite_t h hb13
    refine zblq Hy.1 Hy.2.1 [(.iconst 0, 1)] (S' := (17, [(0, .inr (.inr (some (4, 0)))), (1, .inl x1), (2, .inl x2), (3, .inl x3)], [.inl (0 : Int32)], zfC M1)) (b := true) (by decide +kernel) rfl rfl ?_
    cases h
    exact zret_i Hy.1 Hy.2.2 hE (by decide +kernel)
  · replace h := zite_f h hb13
    refine zblq Hy.1 Hy.2.1 [(.aload 0, 1), (.iload 2, 1)] (S' := (10, [(0, .inr (.inr (some (4, 0)))), (1, .inl x1), (2, .inl x2), (3, .inl x3)], [.inl x2, .inr (.inr (some (4, 0)))], zfC M1)) (b := true) (by decide +kernel) rfl rfl ?_
    obtain ⟨r2, M2, hc2, h⟩ := zbd_inv h
    refine zcallV Hy.1 (as := [.inl x2]) (st := []) (m4_hasSpot_met (zOK_G Hy.1) Hy.2.1 hc2) cw4_56 m4_hasSpot_in m4_hasSpot_se (by decide) (zhlv Hy.2.1 rfl) rfl (zroom Hy.2.2 ⟨by decide, by decide⟩) rfl (by decide +kernel) ⟨Nat.zero_le _, Nat.zero_le _⟩ ?_
    refine zif_ne Hy.1 (off := 5) (tgt := 18) (by decide +kernel) (by decide) (fun hb12 => ?_) (fun hb12 => ?_)
    · replace h := zite_f h hb12
      obtain ⟨hg3, h⟩ := zgd_inv h
      refine zblq Hy.1 Hy.2.1 [(.aload 0, 1), (.getfield 405, 3), (.iload 1, 1), (.iaload, 1), (.iload 2, 1), (.ishr, 1), (.iconst 1, 1), (.iand, 1), (.istore 4, 2), (.aload 0, 1), (.getfield 405, 3), (.iload 1, 1), (.iload 3, 1)] (S' := (36, [(0, .inr (.inr (some (4, 0)))), (1, .inl x1), (2, .inl x2), (3, .inl x3), (4, .inl ((zshr (cg M2 505 0 (nx x1)) x2) &&& (1 : Int32)))], [.inl x3, .inl x1, .inr (.inr (some (505, 0)))], zfC M2)) (b := zin x1 6 && true) (by decide +kernel) rfl hg3 ?_
      refine zif_eq Hy.1 (off := 16) (tgt := 52) (by decide +kernel) (by decide) (fun hb11 => ?_) (fun hb11 => ?_)
      · replace h := zite_t h hb11
        obtain ⟨hg4, h⟩ := zgd_inv h
        refine zblq Hy.1 Hy.2.1 [(.aload 0, 1), (.getfield 405, 3), (.iload 1, 1), (.iaload, 1), (.iconst 1, 1), (.iload 2, 1), (.ishl, 1), (.iconst (-1), 1), (.ixor, 1), (.iand, 1)] (S' := (64, [(0, .inr (.inr (some (4, 0)))), (1, .inl x1), (2, .inl x2), (3, .inl x3), (4, .inl ((zshr (cg M2 505 0 (nx x1)) x2) &&& (1 : Int32)))], [.inl ((cg M2 505 0 (nx x1)) &&& ((zshl (1 : Int32) x2) ^^^ (-1 : Int32))), .inl x1, .inr (.inr (some (505, 0)))], zfC M2)) (b := zin x1 6 && true) (by decide +kernel) rfl hg4 ?_
        refine zGo_keep [0, 1, 2, 3, 4] rfl ?_
        exact m4_layWay_64_ok Hy hE x1 x2 x3 ((zshr (cg M2 505 0 (nx x1)) x2) &&& (1 : Int32)) x1 ((cg M2 505 0 (nx x1)) &&& ((zshl (1 : Int32) x2) ^^^ (-1 : Int32))) M2 h
      · replace h := zite_f h hb11
        obtain ⟨hg10, h⟩ := zgd_inv h
        refine zblq Hy.1 Hy.2.1 [(.aload 0, 1), (.getfield 405, 3), (.iload 1, 1), (.iaload, 1), (.iconst 1, 1), (.iload 2, 1), (.ishl, 1), (.ior, 1), (.ldc 64, 3)] (S' := (64, [(0, .inr (.inr (some (4, 0)))), (1, .inl x1), (2, .inl x2), (3, .inl x3), (4, .inl ((zshr (cg M2 505 0 (nx x1)) x2) &&& (1 : Int32)))], [.inl ((cg M2 505 0 (nx x1)) ||| (zshl (1 : Int32) x2)), .inl x1, .inr (.inr (some (505, 0)))], zfC M2)) (b := zin x1 6 && true) (by decide +kernel) rfl hg10 ?_
        refine zGo_keep [0, 1, 2, 3, 4] rfl ?_
        exact m4_layWay_64_ok Hy hE x1 x2 x3 ((zshr (cg M2 505 0 (nx x1)) x2) &&& (1 : Int32)) x1 ((cg M2 505 0 (nx x1)) ||| (zshl (1 : Int32) x2)) M2 h
    · replace h := zite_t h hb12
      refine zblq Hy.1 Hy.2.1 [(.iconst 0, 1)] (S' := (17, [(0, .inr (.inr (some (4, 0)))), (1, .inl x1), (2, .inl x2), (3, .inl x3)], [.inl (0 : Int32)], zfC M2)) (b := true) (by decide +kernel) rfl rfl ?_
      cases h
      exact zret_i Hy.1 Hy.2.2 hE (by decide +kernel)
theorem m4_layWay_met {l : Launch} {G : zG} (hG : zGok G) (hcn : zgcn G = zcC) {x1 : Int32} {x2 : Int32} {x3 : Int32} {M : cM} {r : Int32} {M' : cM} (h : m4_layWay x1 x2 x3 M = some (r, M')) : zMet l G yX4_layWay cX4_layWay 5 (some .int) 1 21 [.inr (.inr (some (4, 0))), .inl x1, .inl x2, .inl x3] (zfC M) (some (.inl r)) (zfC M') :=
  zMet_of hG tbX4_ok rfl (by decide +kernel) (Nat.le_of_ble_eq_true rfl) (fun X _ Z hA hE => m4_layWay_ok ⟨Z, hcn, hA⟩ hE x1 x2 x3 M h)
abbrev q11_way : ByteArray × Nat × String × zT := (cX11_way, 4, RX11, tbX11)
def m11_way (x1 : Int32) (x2 : Int32) (x3 : Int32) (M : cM) : Option (Int32 × cM) := zbd (m4_hasSpot x1 M) (fun r1 M1 => (if r1 = 0 then some ((-2 : Int32), M1) else zbd (m4_hasSpot x2 M1) (fun r2 M2 => (if r2 = 0 then some ((-2 : Int32), M2) else (if x1 = x2 then some ((-2 : Int32), M2) else zbd (m4_layWay x1 x2 x3 M2) (fun r3 M3 => some (r3, M3)))))))
theorem m11_way_ok {X : zX} {G : zG} (Hy : zHy X G q11_way zcC 2 45 (some .int)) {r : Int32} {M' : cM} (hE : zEnd X G (some (.inl r)) (zfC M')) (x1 : Int32) (x2 : Int32) (x3 : Int32) (M : cM) (h : m11_way x1 x2 x3 M = some (r, M')) : zGo (X, q11_way, G) 0 0 (0, [(0, .inr (.inr (some (11, 0)))), (1, .inl x1), (2, .inl x2), (3, .inl x3)], [], zfC M) := by
  unfold m11_way at h
  refine zblq Hy.1 Hy.2.1 [(.aload 0, 1), (.getfield 1106, 3), (.iload 1, 1)] (S' := (5, [(0, .inr (.inr (some (11, 0)))), (1, .inl x1), (2, .inl x2), (3, .inl x3)], [.inl x1, .inr (.inr (some (4, 0)))], zfC M)) (b := true) (by decide +kernel) rfl rfl ?_
  obtain ⟨r1, M1, hc1, h⟩ := zbd_inv h
  refine zcallV Hy.1 (as := [.inl x1]) (st := []) (m4_hasSpot_met (zOK_G Hy.1) Hy.2.1 hc1) cw11_300 m4_hasSpot_in m4_hasSpot_se (by decide) (zhlv Hy.2.1 rfl) rfl (zroom Hy.2.2 ⟨by decide, by decide⟩) rfl (by decide +kernel) ⟨Nat.zero_le _, Nat.zero_le _⟩ ?_
  refine zif_eq Hy.1 (off := 19) (tgt := 27) (by decide +kernel) (by decide) (fun hb6 => ?_) (fun hb6 => ?_)
  · replace h := zite_t h hb6
    refine zblq Hy.1 Hy.2.1 [(.iconst (-2), 2)] (S' := (29, [(0, .inr (.inr (some (11, 0)))), (1, .inl x1), (2, .inl x2), (3, .inl x3)], [.inl (-2 : Int32)], zfC M1)) (b := true) (by decide +kernel) rfl rfl ?_
    cases h
    exact zret_i Hy.1 Hy.2.2 hE (by decide +kernel)
  · replace h := zite_f h hb6
    refine zblq Hy.1 Hy.2.1 [(.aload 0, 1), (.getfield 1106, 3), (.iload 2, 1)] (S' := (16, [(0, .inr (.inr (some (11, 0)))), (1, .inl x1), (2, .inl x2), (3, .inl x3)], [.inl x2, .inr (.inr (some (4, 0)))], zfC M1)) (b := true) (by decide +kernel) rfl rfl ?_
    obtain ⟨r2, M2, hc2, h⟩ := zbd_inv h
    refine zcallV Hy.1 (as := [.inl x2]) (st := []) (m4_hasSpot_met (zOK_G Hy.1) Hy.2.1 hc2) cw11_300 m4_hasSpot_in m4_hasSpot_se (by decide) (zhlv Hy.2.1 rfl) rfl (zroom Hy.2.2 ⟨by decide, by decide⟩) rfl (by decide +kernel) ⟨Nat.zero_le _, Nat.zero_le _⟩ ?_
    refine zif_eq Hy.1 (off := 8) (tgt := 27) (by decide +kernel) (by decide) (fun hb5 => ?_) (fun hb5 => ?_)
    · replace h := zite_t h hb5
      refine zblq Hy.1 Hy.2.1 [(.iconst (-2), 2)] (S' := (29, [(0, .inr (.inr (some (11, 0)))), (1, .inl x1), (2, .inl x2), (3, .inl x3)], [.inl (-2 : Int32)], zfC M2)) (b := true) (by decide +kernel) rfl rfl ?_
      cases h
      exact zret_i Hy.1 Hy.2.2 hE (by decide +kernel)
    · replace h := zite_f h hb5
      refine zblq Hy.1 Hy.2.1 [(.iload 1, 1), (.iload 2, 1)] (S' := (24, [(0, .inr (.inr (some (11, 0)))), (1, .inl x1), (2, .inl x2), (3, .inl x3)], [.inl x2, .inl x1], zfC M2)) (b := true) (by decide +kernel) rfl rfl ?_
      refine zic_ne Hy.1 (off := 6) (tgt := 30) (by decide +kernel) (by decide) (fun hb4 => ?_) (fun hb4 => ?_)
      · replace h := zite_f h hb4
        refine zblq Hy.1 Hy.2.1 [(.aload 0, 1), (.getfield 1106, 3), (.iload 1, 1), (.iload 2, 1), (.iload 3, 1)] (S' := (37, [(0, .inr (.inr (some (11, 0)))), (1, .inl x1), (2, .inl x2), (3, .inl x3)], [.inl x3, .inl x2, .inl x1, .inr (.inr (some (4, 0)))], zfC M2)) (b := true) (by decide +kernel) rfl rfl ?_
        obtain ⟨r3, M3, hc3, h⟩ := zbd_inv h
        refine zcallV Hy.1 (as := [.inl x1, .inl x2, .inl x3]) (st := []) (m4_layWay_met (zOK_G Hy.1) Hy.2.1 hc3) cw11_303 m4_layWay_in m4_layWay_se (by decide) (zhlv Hy.2.1 rfl) rfl (zroom Hy.2.2 ⟨by decide, by decide⟩) rfl (by decide +kernel) ⟨Nat.zero_le _, Nat.zero_le _⟩ ?_
        cases h
        exact zret_i Hy.1 Hy.2.2 hE (by decide +kernel)
      · replace h := zite_t h hb4
        refine zblq Hy.1 Hy.2.1 [(.iconst (-2), 2)] (S' := (29, [(0, .inr (.inr (some (11, 0)))), (1, .inl x1), (2, .inl x2), (3, .inl x3)], [.inl (-2 : Int32)], zfC M2)) (b := true) (by decide +kernel) rfl rfl ?_
        cases h
        exact zret_i Hy.1 Hy.2.2 hE (by decide +kernel)
theorem m11_way_met {l : Launch} {G : zG} (hG : zGok G) (hcn : zgcn G = zcC) {x1 : Int32} {x2 : Int32} {x3 : Int32} {M : cM} {r : Int32} {M' : cM} (h : m11_way x1 x2 x3 M = some (r, M')) : zMet l G yX11_way cX11_way 4 (some .int) 2 45 [.inr (.inr (some (11, 0))), .inl x1, .inl x2, .inl x3] (zfC M) (some (.inl r)) (zfC M') :=
  zMet_of hG tbX11_ok rfl (by decide +kernel) (Nat.le_of_ble_eq_true rfl) (fun X _ Z hA hE => m11_way_ok ⟨Z, hcn, hA⟩ hE x1 x2 x3 M h)
abbrev q4_hasEar : ByteArray × Nat × String × zT := (cX4_hasEar, 2, RX4, tbX4)
def m4_hasEar (x1 : Int32) (M : cM) : Option (Int32 × cM) := (if x1 < 0 then some ((0 : Int32), M) else (if (6 : Int32) ≤ x1 then some ((0 : Int32), M) else some ((1 : Int32), M)))
theorem m4_hasEar_ok {X : zX} {G : zG} (Hy : zHy X G q4_hasEar zcC 0 0 (some .boolean)) {r : Int32} {M' : cM} (hE : zEnd X G (some (.inl r)) (zfC M')) (x1 : Int32) (M : cM) (h : m4_hasEar x1 M = some (r, M')) : zGo (X, q4_hasEar, G) 0 0 (0, [(0, .inr (.inr (some (4, 0)))), (1, .inl x1)], [], zfC M) := by
  unfold m4_hasEar at h
  refine zblq Hy.1 Hy.2.1 [(.iload 1, 1)] (S' := (1, [(0, .inr (.inr (some (4, 0)))), (1, .inl x1)], [.inl x1], zfC M)) (b := true) (by decide +kernel) rfl rfl ?_
  refine zif_lt Hy.1 (off := 13) (tgt := 14) (by decide +kernel) (by decide) (fun hb2 => ?_) (fun hb2 => ?_)
  · replace h := zite_t h hb2
    refine zblq Hy.1 Hy.2.1 [(.iconst 0, 1)] (S' := (15, [(0, .inr (.inr (some (4, 0)))), (1, .inl x1)], [.inl (0 : Int32)], zfC M)) (b := true) (by decide +kernel) rfl rfl ?_
    cases h
    exact zret_z Hy.1 Hy.2.2 (by decide) hE (by decide +kernel)
  · replace h := zite_f h hb2
    refine zblq Hy.1 Hy.2.1 [(.iload 1, 1), (.iconst 6, 2)] (S' := (7, [(0, .inr (.inr (some (4, 0)))), (1, .inl x1)], [.inl (6 : Int32), .inl x1], zfC M)) (b := true) (by decide +kernel) rfl rfl ?_
    refine zic_ge Hy.1 (off := 7) (tgt := 14) (by decide +kernel) (by decide) (fun hb1 => ?_) (fun hb1 => ?_)
    · replace h := zite_t h hb1
      refine zblq Hy.1 Hy.2.1 [(.iconst 0, 1)] (S' := (15, [(0, .inr (.inr (some (4, 0)))), (1, .inl x1)], [.inl (0 : Int32)], zfC M)) (b := true) (by decide +kernel) rfl rfl ?_
      cases h
      exact zret_z Hy.1 Hy.2.2 (by decide) hE (by decide +kernel)
    · replace h := zite_f h hb1
      refine zblq Hy.1 Hy.2.1 [(.iconst 1, 1), (.ldc 15, 3)] (S' := (15, [(0, .inr (.inr (some (4, 0)))), (1, .inl x1)], [.inl (1 : Int32)], zfC M)) (b := true) (by decide +kernel) rfl rfl ?_
      cases h
      exact zret_z Hy.1 Hy.2.2 (by decide) hE (by decide +kernel)
theorem m4_hasEar_met {l : Launch} {G : zG} (hG : zGok G) (hcn : zgcn G = zcC) {x1 : Int32} {M : cM} {r : Int32} {M' : cM} (h : m4_hasEar x1 M = some (r, M')) : zMet l G yX4_hasEar cX4_hasEar 2 (some .boolean) 0 0 [.inr (.inr (some (4, 0))), .inl x1] (zfC M) (some (.inl r)) (zfC M') :=
  zMet_of hG tbX4_ok rfl (by decide +kernel) (Nat.le_of_ble_eq_true rfl) (fun X _ Z hA hE => m4_hasEar_ok ⟨Z, hcn, hA⟩ hE x1 M h)
abbrev q11_ear : ByteArray × Nat × String × zT := (cX11_ear, 4, RX11, tbX11)
def m11_ear (x1 : Int32) (x2 : Int32) (M : cM) : Option (Int32 × cM) := zbd (m4_hasEar x1 M) (fun r1 M1 => (if r1 = 0 then some ((-2 : Int32), M1) else zbd (m11_outside x2 (0 : Int32) (63 : Int32) M1) (fun r2 M2 => (if r2 = 0 then zgd (zin x1 6 && (zin x1 6 && true)) (some (cg M2 503 0 (nx x1), cs M2 503 0 (nx x1) x2)) else some ((-3 : Int32), M2)))))
theorem m11_ear_ok {X : zX} {G : zG} (Hy : zHy X G q11_ear zcC 1 22 (some .int)) {r : Int32} {M' : cM} (hE : zEnd X G (some (.inl r)) (zfC M')) (x1 : Int32) (x2 : Int32) (M : cM) (h : m11_ear x1 x2 M = some (r, M')) : zGo (X, q11_ear, G) 0 0 (0, [(0, .inr (.inr (some (11, 0)))), (1, .inl x1), (2, .inl x2)], [], zfC M) := by
  unfold m11_ear at h
  refine zblq Hy.1 Hy.2.1 [(.aload 0, 1), (.getfield 1106, 3), (.iload 1, 1)] (S' := (5, [(0, .inr (.inr (some (11, 0)))), (1, .inl x1), (2, .inl x2)], [.inl x1, .inr (.inr (some (4, 0)))], zfC M)) (b := true) (by decide +kernel) rfl rfl ?_
  obtain ⟨r1, M1, hc1, h⟩ := zbd_inv h
  refine zcallV Hy.1 (as := [.inl x1]) (st := []) (m4_hasEar_met (zOK_G Hy.1) Hy.2.1 hc1) cw11_306 m4_hasEar_in m4_hasEar_se (by decide) (zhlv Hy.2.1 rfl) rfl (zroom Hy.2.2 ⟨by decide, by decide⟩) rfl (by decide +kernel) ⟨Nat.zero_le _, Nat.zero_le _⟩ ?_
  refine zif_ne Hy.1 (off := 6) (tgt := 14) (by decide +kernel) (by decide) (fun hb5 => ?_) (fun hb5 => ?_)
  · replace h := zite_f h hb5
    refine zblq Hy.1 Hy.2.1 [(.iload 2, 1), (.iconst 0, 1), (.iconst 63, 2)] (S' := (18, [(0, .inr (.inr (some (11, 0)))), (1, .inl x1), (2, .inl x2)], [.inl (63 : Int32), .inl (0 : Int32), .inl x2], zfC M1)) (b := true) (by decide +kernel) rfl rfl ?_
    obtain ⟨r2, M2, hc2, h⟩ := zbd_inv h
    refine zcallS Hy.1 (as := [.inl x2, .inl (0 : Int32), .inl (63 : Int32)]) (st := []) (m11_outside_met (zOK_G Hy.1) Hy.2.1 hc2) cw11_66 m11_outside_in rfl (zroom Hy.2.2 ⟨by decide, by decide⟩) rfl (by decide +kernel) ⟨Nat.zero_le _, Nat.zero_le _⟩ ?_
    refine zif_eq Hy.1 (off := 6) (tgt := 27) (by decide +kernel) (by decide) (fun hb4 => ?_) (fun hb4 => ?_)
    · replace h := zite_t h hb4
      obtain ⟨hg3, h⟩ := zgd_inv h
      refine zblq Hy.1 Hy.2.1 [(.aload 0, 1), (.getfield 1106, 3), (.getfield 403, 3), (.iload 1, 1), (.iaload, 1), (.istore 3, 1), (.aload 0, 1), (.getfield 1106, 3), (.getfield 403, 3), (.iload 1, 1), (.iload 2, 1), (.iastore, 1), (.iload 3, 1)] (S' := (48, [(0, .inr (.inr (some (11, 0)))), (1, .inl x1), (2, .inl x2), (3, .inl (cg M2 503 0 (nx x1)))], [.inl (cg M2 503 0 (nx x1))], zfC (cs M2 503 0 (nx x1) x2))) (b := zin x1 6 && (zin x1 6 && true)) (by decide +kernel) rfl hg3 ?_
      cases h
      exact zret_i Hy.1 Hy.2.2 hE (by decide +kernel)
    · replace h := zite_f h hb4
      refine zblq Hy.1 Hy.2.1 [(.iconst (-3), 2)] (S' := (26, [(0, .inr (.inr (some (11, 0)))), (1, .inl x1), (2, .inl x2)], [.inl (-3 : Int32)], zfC M2)) (b := true) (by decide +kernel) rfl rfl ?_
      cases h
      exact zret_i Hy.1 Hy.2.2 hE (by decide +kernel)
  · replace h := zite_t h hb5
    refine zblq Hy.1 Hy.2.1 [(.iconst (-2), 2)] (S' := (13, [(0, .inr (.inr (some (11, 0)))), (1, .inl x1), (2, .inl x2)], [.inl (-2 : Int32)], zfC M1)) (b := true) (by decide +kernel) rfl rfl ?_
    cases h
    exact zret_i Hy.1 Hy.2.2 hE (by decide +kernel)
theorem m11_ear_met {l : Launch} {G : zG} (hG : zGok G) (hcn : zgcn G = zcC) {x1 : Int32} {x2 : Int32} {M : cM} {r : Int32} {M' : cM} (h : m11_ear x1 x2 M = some (r, M')) : zMet l G yX11_ear cX11_ear 4 (some .int) 1 22 [.inr (.inr (some (11, 0))), .inl x1, .inl x2] (zfC M) (some (.inl r)) (zfC M') :=
  zMet_of hG tbX11_ok rfl (by decide +kernel) (Nat.le_of_ble_eq_true rfl) (fun X _ Z hA hE => m11_ear_ok ⟨Z, hcn, hA⟩ hE x1 x2 M h)
abbrev q4_hasTick : ByteArray × Nat × String × zT := (cX4_hasTick, 2, RX4, tbX4)
def m4_hasTick (x1 : Int32) (M : cM) : Option (Int32 × cM) := (if x1 < 0 then some ((0 : Int32), M) else (if (cg M 4 0 1) ≤ x1 then some ((0 : Int32), M) else some ((1 : Int32), M)))
theorem m4_hasTick_ok {X : zX} {G : zG} (Hy : zHy X G q4_hasTick zcC 0 0 (some .boolean)) {r : Int32} {M' : cM} (hE : zEnd X G (some (.inl r)) (zfC M')) (x1 : Int32) (M : cM) (h : m4_hasTick x1 M = some (r, M')) : zGo (X, q4_hasTick, G) 0 0 (0, [(0, .inr (.inr (some (4, 0)))), (1, .inl x1)], [], zfC M) := by
  unfold m4_hasTick at h
  refine zblq Hy.1 Hy.2.1 [(.iload 1, 1)] (S' := (1, [(0, .inr (.inr (some (4, 0)))), (1, .inl x1)], [.inl x1], zfC M)) (b := true) (by decide +kernel) rfl rfl ?_
  refine zif_lt Hy.1 (off := 15) (tgt := 16) (by decide +kernel) (by decide) (fun hb2 => ?_) (fun hb2 => ?_)
  · replace h := zite_t h hb2
    refine zblq Hy.1 Hy.2.1 [(.iconst 0, 1)] (S' := (17, [(0, .inr (.inr (some (4, 0)))), (1, .inl x1)], [.inl (0 : Int32)], zfC M)) (b := true) (by decide +kernel) rfl rfl ?_
    cases h
    exact zret_z Hy.1 Hy.2.2 (by decide) hE (by decide +kernel)
  · replace h := zite_f h hb2
    refine zblq Hy.1 Hy.2.1 [(.iload 1, 1), (.aload 0, 1), (.multianewarray 4 1, 3)] (S' := (9, [(0, .inr (.inr (some (4, 0)))), (1, .inl x1)], [.inl (cg M 4 0 1), .inl x1], zfC M)) (b := true) (by decide +kernel) rfl rfl ?_
    refine zic_ge Hy.1 (off := 7) (tgt := 16) (by decide +kernel) (by decide) (fun hb1 => ?_) (fun hb1 => ?_)
    · replace h := zite_t h hb1
      refine zblq Hy.1 Hy.2.1 [(.iconst 0, 1)] (S' := (17, [(0, .inr (.inr (some (4, 0)))), (1, .inl x1)], [.inl (0 : Int32)], zfC M)) (b := true) (by decide +kernel) rfl rfl ?_
      cases h
      exact zret_z Hy.1 Hy.2.2 (by decide) hE (by decide +kernel)
    · replace h := zite_f h hb1
      refine zblq Hy.1 Hy.2.1 [(.iconst 1, 1), (.ldc 17, 3)] (S' := (17, [(0, .inr (.inr (some (4, 0)))), (1, .inl x1)], [.inl (1 : Int32)], zfC M)) (b := true) (by decide +kernel) rfl rfl ?_
      cases h
      exact zret_z Hy.1 Hy.2.2 (by decide) hE (by decide +kernel)
theorem m4_hasTick_met {l : Launch} {G : zG} (hG : zGok G) (hcn : zgcn G = zcC) {x1 : Int32} {M : cM} {r : Int32} {M' : cM} (h : m4_hasTick x1 M = some (r, M')) : zMet l G yX4_hasTick cX4_hasTick 2 (some .boolean) 0 0 [.inr (.inr (some (4, 0))), .inl x1] (zfC M) (some (.inl r)) (zfC M') :=
  zMet_of hG tbX4_ok rfl (by decide +kernel) (Nat.le_of_ble_eq_true rfl) (fun X _ Z hA hE => m4_hasTick_ok ⟨Z, hcn, hA⟩ hE x1 M h)
abbrev q4_logOf : ByteArray × Nat × String × zT := (cX4_logOf, 4, RX4, tbX4)
def m4_logOf (x1 : Int32) (x2 : Int32) (M : cM) : Option (Int32 × cM) := (if (((5 : Int32) * x1) + x2) < 0 then some ((2 : Int32), M) else (if (30 : Int32) ≤ (((5 : Int32) * x1) + x2) then some ((2 : Int32), M) else zgd (zin (((5 : Int32) * x1) + x2) 30 && true) (some (cg M 504 0 (nx (((5 : Int32) * x1) + x2)), M))))
theorem m4_logOf_ok {X : zX} {G : zG} (Hy : zHy X G q4_logOf zcC 0 0 (some .int)) {r : Int32} {M' : cM} (hE : zEnd X G (some (.inl r)) (zfC M')) (x1 : Int32) (x2 : Int32) (M : cM) (h : m4_logOf x1 x2 M = some (r, M')) : zGo (X, q4_logOf, G) 0 0 (0, [(0, .inr (.inr (some (4, 0)))), (1, .inl x1), (2, .inl x2)], [], zfC M) := by
  unfold m4_logOf at h
  refine zblq Hy.1 Hy.2.1 [(.iconst 5, 1), (.iload 1, 1), (.imul, 1), (.iload 2, 1), (.iadd, 1), (.istore 3, 1), (.iload 3, 1)] (S' := (7, [(0, .inr (.inr (some (4, 0)))), (1, .inl x1), (2, .inl x2), (3, .inl (((5 : Int32) * x1) + x2))], [.inl (((5 : Int32) * x1) + x2)], zfC M)) (b := true) (by decide +kernel) rfl rfl ?_
  refine zif_lt Hy.1 (off := 21) (tgt := 28) (by decide +kernel) (by decide) (fun hb3 => ?_) (fun hb3 => ?_)
  · replace h := zite_t h hb3
    refine zblq Hy.1 Hy.2.1 [(.iconst 2, 1)] (S' := (29, [(0, .inr (.inr (some (4, 0)))), (1, .inl x1), (2, .inl x2), (3, .inl (((5 : Int32) * x1) + x2))], [.inl (2 : Int32)], zfC M)) (b := true) (by decide +kernel) rfl rfl ?_
    cases h
    exact zret_i Hy.1 Hy.2.2 hE (by decide +kernel)
  · replace h := zite_f h hb3
    refine zblq Hy.1 Hy.2.1 [(.iload 3, 1), (.aload 0, 1), (.getfield 404, 3), (.arraylength, 1)] (S' := (16, [(0, .inr (.inr (some (4, 0)))), (1, .inl x1), (2, .inl x2), (3, .inl (((5 : Int32) * x1) + x2))], [.inl (30 : Int32), .inl (((5 : Int32) * x1) + x2)], zfC M)) (b := true) (by decide +kernel) rfl rfl ?_
    refine zic_ge Hy.1 (off := 12) (tgt := 28) (by decide +kernel) (by decide) (fun hb2 => ?_) (fun hb2 => ?_)
    · replace h := zite_t h hb2
      refine zblq Hy.1 Hy.2.1 [(.iconst 2, 1)] (S' := (29, [(0, .inr (.inr (some (4, 0)))), (1, .inl x1), (2, .inl x2), (3, .inl (((5 : Int32) * x1) + x2))], [.inl (2 : Int32)], zfC M)) (b := true) (by decide +kernel) rfl rfl ?_
      cases h
      exact zret_i Hy.1 Hy.2.2 hE (by decide +kernel)
    · replace h := zite_f h hb2
      obtain ⟨hg1, h⟩ := zgd_inv h
      refine zblq Hy.1 Hy.2.1 [(.aload 0, 1), (.getfield 404, 3), (.iload 3, 1), (.iaload, 1), (.ldc 29, 3)] (S' := (29, [(0, .inr (.inr (some (4, 0)))), (1, .inl x1), (2, .inl x2), (3, .inl (((5 : Int32) * x1) + x2))], [.inl (cg M 504 0 (nx (((5 : Int32) * x1) + x2)))], zfC M)) (b := zin (((5 : Int32) * x1) + x2) 30 && true) (by decide +kernel) rfl hg1 ?_
      cases h
      exact zret_i Hy.1 Hy.2.2 hE (by decide +kernel)
theorem m4_logOf_met {l : Launch} {G : zG} (hG : zGok G) (hcn : zgcn G = zcC) {x1 : Int32} {x2 : Int32} {M : cM} {r : Int32} {M' : cM} (h : m4_logOf x1 x2 M = some (r, M')) : zMet l G yX4_logOf cX4_logOf 4 (some .int) 0 0 [.inr (.inr (some (4, 0))), .inl x1, .inl x2] (zfC M) (some (.inl r)) (zfC M') :=
  zMet_of hG tbX4_ok rfl (by decide +kernel) (Nat.le_of_ble_eq_true rfl) (fun X _ Z hA hE => m4_logOf_ok ⟨Z, hcn, hA⟩ hE x1 x2 M h)
abbrev q4_writeLog : ByteArray × Nat × String × zT := (cX4_writeLog, 6, RX4, tbX4)
def m4_writeLog (x1 : Int32) (x2 : Int32) (x3 : Int32) (M : cM) : Option (Int32 × cM) := zbd (m4_logOf x1 x2 M) (fun r1 M1 => (if (((5 : Int32) * x1) + x2) < 0 then some (r1, M1) else (if (30 : Int32) ≤ (((5 : Int32) * x1) + x2) then some (r1, M1) else zgd (zin (((5 : Int32) * x1) + x2) 30 && true) (some (r1, cs M1 504 0 (nx (((5 : Int32) * x1) + x2)) x3)))))
theorem m4_writeLog_ok {X : zX} {G : zG} (Hy : zHy X G q4_writeLog zcC 1 23 (some .int)) {r : Int32} {M' : cM} (hE : zEnd X G (some (.inl r)) (zfC M')) (x1 : Int32) (x2 : Int32) (x3 : Int32) (M : cM) (h : m4_writeLog x1 x2 x3 M = some (r, M')) : zGo (X, q4_writeLog, G) 0 0 (0, [(0, .inr (.inr (some (4, 0)))), (1, .inl x1), (2, .inl x2), (3, .inl x3)], [], zfC M) := by
  unfold m4_writeLog at h
  refine zblq Hy.1 Hy.2.1 [(.aload 0, 1), (.iload 1, 1), (.iload 2, 1)] (S' := (3, [(0, .inr (.inr (some (4, 0)))), (1, .inl x1), (2, .inl x2), (3, .inl x3)], [.inl x2, .inl x1, .inr (.inr (some (4, 0)))], zfC M)) (b := true) (by decide +kernel) rfl rfl ?_
  obtain ⟨r1, M1, hc1, h⟩ := zbd_inv h
  refine zcallV Hy.1 (as := [.inl x1, .inl x2]) (st := []) (m4_logOf_met (zOK_G Hy.1) Hy.2.1 hc1) cw4_60 m4_logOf_in m4_logOf_se (by decide) (zhlv Hy.2.1 rfl) rfl (zroom Hy.2.2 ⟨by decide, by decide⟩) rfl (by decide +kernel) ⟨Nat.zero_le _, Nat.zero_le _⟩ ?_
  refine zblq Hy.1 Hy.2.1 [(.istore 4, 2), (.iconst 5, 1), (.iload 1, 1), (.imul, 1), (.iload 2, 1), (.iadd, 1), (.istore 5, 2), (.iload 5, 2)] (S' := (17, [(0, .inr (.inr (some (4, 0)))), (1, .inl x1), (2, .inl x2), (3, .inl x3), (4, .inl r1), (5, .inl (((5 : Int32) * x1) + x2))], [.inl (((5 : Int32) * x1) + x2)], zfC M1)) (b := true) (by decide +kernel) rfl rfl ?_
  refine zif_lt Hy.1 (off := 21) (tgt := 38) (by decide +kernel) (by decide) (fun hb4 => ?_) (fun hb4 => ?_)
  · replace h := zite_t h hb4
    refine zblq Hy.1 Hy.2.1 [(.iload 4, 2)] (S' := (40, [(0, .inr (.inr (some (4, 0)))), (1, .inl x1), (2, .inl x2), (3, .inl x3), (4, .inl r1), (5, .inl (((5 : Int32) * x1) + x2))], [.inl r1], zfC M1)) (b := true) (by decide +kernel) rfl rfl ?_
    cases h
    exact zret_i Hy.1 Hy.2.2 hE (by decide +kernel)
  · replace h := zite_f h hb4
    refine zblq Hy.1 Hy.2.1 [(.iload 5, 2), (.aload 0, 1), (.getfield 404, 3), (.arraylength, 1)] (S' := (27, [(0, .inr (.inr (some (4, 0)))), (1, .inl x1), (2, .inl x2), (3, .inl x3), (4, .inl r1), (5, .inl (((5 : Int32) * x1) + x2))], [.inl (30 : Int32), .inl (((5 : Int32) * x1) + x2)], zfC M1)) (b := true) (by decide +kernel) rfl rfl ?_
    refine zic_ge Hy.1 (off := 11) (tgt := 38) (by decide +kernel) (by decide) (fun hb3 => ?_) (fun hb3 => ?_)
    · replace h := zite_t h hb3
      refine zblq Hy.1 Hy.2.1 [(.iload 4, 2)] (S' := (40, [(0, .inr (.inr (some (4, 0)))), (1, .inl x1), (2, .inl x2), (3, .inl x3), (4, .inl r1), (5, .inl (((5 : Int32) * x1) + x2))], [.inl r1], zfC M1)) (b := true) (by decide +kernel) rfl rfl ?_
      cases h
      exact zret_i Hy.1 Hy.2.2 hE (by decide +kernel)
    · replace h := zite_f h hb3
      obtain ⟨hg2, h⟩ := zgd_inv h
      refine zblq Hy.1 Hy.2.1 [(.aload 0, 1), (.getfield 404, 3), (.iload 5, 2), (.iload 3, 1), (.iastore, 1), (.iload 4, 2)] (S' := (40, [(0, .inr (.inr (some (4, 0)))), (1, .inl x1), (2, .inl x2), (3, .inl x3), (4, .inl r1), (5, .inl (((5 : Int32) * x1) + x2))], [.inl r1], zfC (cs M1 504 0 (nx (((5 : Int32) * x1) + x2)) x3))) (b := zin (((5 : Int32) * x1) + x2) 30 && true) (by decide +kernel) rfl hg2 ?_
      cases h
      exact zret_i Hy.1 Hy.2.2 hE (by decide +kernel)
theorem m4_writeLog_met {l : Launch} {G : zG} (hG : zGok G) (hcn : zgcn G = zcC) {x1 : Int32} {x2 : Int32} {x3 : Int32} {M : cM} {r : Int32} {M' : cM} (h : m4_writeLog x1 x2 x3 M = some (r, M')) : zMet l G yX4_writeLog cX4_writeLog 6 (some .int) 1 23 [.inr (.inr (some (4, 0))), .inl x1, .inl x2, .inl x3] (zfC M) (some (.inl r)) (zfC M') :=
  zMet_of hG tbX4_ok rfl (by decide +kernel) (Nat.le_of_ble_eq_true rfl) (fun X _ Z hA hE => m4_writeLog_ok ⟨Z, hcn, hA⟩ hE x1 x2 x3 M h)
abbrev q11_log : ByteArray × Nat × String × zT := (cX11_log, 4, RX11, tbX11)
def m11_log (x1 : Int32) (x2 : Int32) (x3 : Int32) (M : cM) : Option (Int32 × cM) := zbd (m4_hasEar x1 M) (fun r1 M1 => (if r1 = 0 then some ((-2 : Int32), M1) else zbd (m4_hasTick x2 M1) (fun r2 M2 => (if r2 = 0 then some ((-2 : Int32), M2) else zbd (m11_outside x3 (0 : Int32) (2 : Int32) M2) (fun r3 M3 => (if r3 = 0 then zbd (m4_writeLog x1 x2 x3 M3) (fun r4 M4 => some (r4, M4)) else some ((-3 : Int32), M3)))))))
theorem m11_log_ok {X : zX} {G : zG} (Hy : zHy X G q11_log zcC 2 48 (some .int)) {r : Int32} {M' : cM} (hE : zEnd X G (some (.inl r)) (zfC M')) (x1 : Int32) (x2 : Int32) (x3 : Int32) (M : cM) (h : m11_log x1 x2 x3 M = some (r, M')) : zGo (X, q11_log, G) 0 0 (0, [(0, .inr (.inr (some (11, 0)))), (1, .inl x1), (2, .inl x2), (3, .inl x3)], [], zfC M) := by
  unfold m11_log at h
  refine zblq Hy.1 Hy.2.1 [(.aload 0, 1), (.getfield 1106, 3), (.iload 1, 1)] (S' := (5, [(0, .inr (.inr (some (11, 0)))), (1, .inl x1), (2, .inl x2), (3, .inl x3)], [.inl x1, .inr (.inr (some (4, 0)))], zfC M)) (b := true) (by decide +kernel) rfl rfl ?_
  obtain ⟨r1, M1, hc1, h⟩ := zbd_inv h
  refine zcallV Hy.1 (as := [.inl x1]) (st := []) (m4_hasEar_met (zOK_G Hy.1) Hy.2.1 hc1) cw11_306 m4_hasEar_in m4_hasEar_se (by decide) (zhlv Hy.2.1 rfl) rfl (zroom Hy.2.2 ⟨by decide, by decide⟩) rfl (by decide +kernel) ⟨Nat.zero_le _, Nat.zero_le _⟩ ?_
  refine zif_eq Hy.1 (off := 14) (tgt := 22) (by decide +kernel) (by decide) (fun hb7 => ?_) (fun hb7 => ?_)
  · replace h := zite_t h hb7
    refine zblq Hy.1 Hy.2.1 [(.iconst (-2), 2)] (S' := (24, [(0, .inr (.inr (some (11, 0)))), (1, .inl x1), (2, .inl x2), (3, .inl x3)], [.inl (-2 : Int32)], zfC M1)) (b := true) (by decide +kernel) rfl rfl ?_
    cases h
    exact zret_i Hy.1 Hy.2.2 hE (by decide +kernel)
  · replace h := zite_f h hb7
    refine zblq Hy.1 Hy.2.1 [(.aload 0, 1), (.getfield 1106, 3), (.iload 2, 1)] (S' := (16, [(0, .inr (.inr (some (11, 0)))), (1, .inl x1), (2, .inl x2), (3, .inl x3)], [.inl x2, .inr (.inr (some (4, 0)))], zfC M1)) (b := true) (by decide +kernel) rfl rfl ?_
    obtain ⟨r2, M2, hc2, h⟩ := zbd_inv h
    refine zcallV Hy.1 (as := [.inl x2]) (st := []) (m4_hasTick_met (zOK_G Hy.1) Hy.2.1 hc2) cw11_312 m4_hasTick_in m4_hasTick_se (by decide) (zhlv Hy.2.1 rfl) rfl (zroom Hy.2.2 ⟨by decide, by decide⟩) rfl (by decide +kernel) ⟨Nat.zero_le _, Nat.zero_le _⟩ ?_
    refine zif_ne Hy.1 (off := 6) (tgt := 25) (by decide +kernel) (by decide) (fun hb6 => ?_) (fun hb6 => ?_)
    · replace h := zite_f h hb6
      refine zblq Hy.1 Hy.2.1 [(.iload 3, 1), (.iconst 0, 1), (.iconst 2, 1)] (S' := (28, [(0, .inr (.inr (some (11, 0)))), (1, .inl x1), (2, .inl x2), (3, .inl x3)], [.inl (2 : Int32), .inl (0 : Int32), .inl x3], zfC M2)) (b := true) (by decide +kernel) rfl rfl ?_
      obtain ⟨r3, M3, hc3, h⟩ := zbd_inv h
      refine zcallS Hy.1 (as := [.inl x3, .inl (0 : Int32), .inl (2 : Int32)]) (st := []) (m11_outside_met (zOK_G Hy.1) Hy.2.1 hc3) cw11_66 m11_outside_in rfl (zroom Hy.2.2 ⟨by decide, by decide⟩) rfl (by decide +kernel) ⟨Nat.zero_le _, Nat.zero_le _⟩ ?_
      refine zif_eq Hy.1 (off := 6) (tgt := 37) (by decide +kernel) (by decide) (fun hb5 => ?_) (fun hb5 => ?_)
      · replace h := zite_t h hb5
        refine zblq Hy.1 Hy.2.1 [(.aload 0, 1), (.getfield 1106, 3), (.iload 1, 1), (.iload 2, 1), (.iload 3, 1)] (S' := (44, [(0, .inr (.inr (some (11, 0)))), (1, .inl x1), (2, .inl x2), (3, .inl x3)], [.inl x3, .inl x2, .inl x1, .inr (.inr (some (4, 0)))], zfC M3)) (b := true) (by decide +kernel) rfl rfl ?_
        obtain ⟨r4, M4, hc4, h⟩ := zbd_inv h
        refine zcallV Hy.1 (as := [.inl x1, .inl x2, .inl x3]) (st := []) (m4_writeLog_met (zOK_G Hy.1) Hy.2.1 hc4) cw11_315 m4_writeLog_in m4_writeLog_se (by decide) (zhlv Hy.2.1 rfl) rfl (zroom Hy.2.2 ⟨by decide, by decide⟩) rfl (by decide +kernel) ⟨Nat.zero_le _, Nat.zero_le _⟩ ?_
        cases h
        exact zret_i Hy.1 Hy.2.2 hE (by decide +kernel)
      · replace h := zite_f h hb5
        refine zblq Hy.1 Hy.2.1 [(.iconst (-3), 2)] (S' := (36, [(0, .inr (.inr (some (11, 0)))), (1, .inl x1), (2, .inl x2), (3, .inl x3)], [.inl (-3 : Int32)], zfC M3)) (b := true) (by decide +kernel) rfl rfl ?_
        cases h
        exact zret_i Hy.1 Hy.2.2 hE (by decide +kernel)
    · replace h := zite_t h hb6
      refine zblq Hy.1 Hy.2.1 [(.iconst (-2), 2)] (S' := (24, [(0, .inr (.inr (some (11, 0)))), (1, .inl x1), (2, .inl x2), (3, .inl x3)], [.inl (-2 : Int32)], zfC M2)) (b := true) (by decide +kernel) rfl rfl ?_
      cases h
      exact zret_i Hy.1 Hy.2.2 hE (by decide +kernel)
theorem m11_log_met {l : Launch} {G : zG} (hG : zGok G) (hcn : zgcn G = zcC) {x1 : Int32} {x2 : Int32} {x3 : Int32} {M : cM} {r : Int32} {M' : cM} (h : m11_log x1 x2 x3 M = some (r, M')) : zMet l G yX11_log cX11_log 4 (some .int) 2 48 [.inr (.inr (some (11, 0))), .inl x1, .inl x2, .inl x3] (zfC M) (some (.inl r)) (zfC M') :=
  zMet_of hG tbX11_ok rfl (by decide +kernel) (Nat.le_of_ble_eq_true rfl) (fun X _ Z hA hE => m11_log_ok ⟨Z, hcn, hA⟩ hE x1 x2 x3 M h)
abbrev q11_liars : ByteArray × Nat × String × zT := (cX11_liars, 3, RX11, tbX11)
def m11_liars (x1 : Int32) (M : cM) : Option (Int32 × cM) := zbd (m11_outside x1 (0 : Int32) (63 : Int32) M) (fun r1 M1 => (if r1 = 0 then some (cg M1 4 0 2, cs M1 4 0 2 x1) else some ((-3 : Int32), M1)))
theorem m11_liars_ok {X : zX} {G : zG} (Hy : zHy X G q11_liars zcC 1 22 (some .int)) {r : Int32} {M' : cM} (hE : zEnd X G (some (.inl r)) (zfC M')) (x1 : Int32) (M : cM) (h : m11_liars x1 M = some (r, M')) : zGo (X, q11_liars, G) 0 0 (0, [(0, .inr (.inr (some (11, 0)))), (1, .inl x1)], [], zfC M) := by
  unfold m11_liars at h
  refine zblq Hy.1 Hy.2.1 [(.iload 1, 1), (.iconst 0, 1), (.iconst 63, 2)] (S' := (4, [(0, .inr (.inr (some (11, 0)))), (1, .inl x1)], [.inl (63 : Int32), .inl (0 : Int32), .inl x1], zfC M)) (b := true) (by decide +kernel) rfl rfl ?_
  obtain ⟨r1, M1, hc1, h⟩ := zbd_inv h
  refine zcallS Hy.1 (as := [.inl x1, .inl (0 : Int32), .inl (63 : Int32)]) (st := []) (m11_outside_met (zOK_G Hy.1) Hy.2.1 hc1) cw11_66 m11_outside_in rfl (zroom Hy.2.2 ⟨by decide, by decide⟩) rfl (by decide +kernel) ⟨Nat.zero_le _, Nat.zero_le _⟩ ?_
  refine zif_eq Hy.1 (off := 6) (tgt := 13) (by decide +kernel) (by decide) (fun hb2 => ?_) (fun hb2 => ?_)
  · replace h := zite_t h hb2
    refine zblq Hy.1 Hy.2.1 [(.aload 0, 1), (.getfield 1106, 3), (.multianewarray 4 2, 3), (.istore 2, 1), (.aload 0, 1), (.getfield 1106, 3), (.iload 1, 1), (.invokeinterface 4 2, 3), (.iload 2, 1)] (S' := (30, [(0, .inr (.inr (some (11, 0)))), (1, .inl x1), (2, .inl (cg M1 4 0 2))], [.inl (cg M1 4 0 2)], zfC (cs M1 4 0 2 x1))) (b := true) (by decide +kernel) rfl rfl ?_
    cases h
    exact zret_i Hy.1 Hy.2.2 hE (by decide +kernel)
  · replace h := zite_f h hb2
    refine zblq Hy.1 Hy.2.1 [(.iconst (-3), 2)] (S' := (12, [(0, .inr (.inr (some (11, 0)))), (1, .inl x1)], [.inl (-3 : Int32)], zfC M1)) (b := true) (by decide +kernel) rfl rfl ?_
    cases h
    exact zret_i Hy.1 Hy.2.2 hE (by decide +kernel)
theorem m11_liars_met {l : Launch} {G : zG} (hG : zGok G) (hcn : zgcn G = zcC) {x1 : Int32} {M : cM} {r : Int32} {M' : cM} (h : m11_liars x1 M = some (r, M')) : zMet l G yX11_liars cX11_liars 3 (some .int) 1 22 [.inr (.inr (some (11, 0))), .inl x1] (zfC M) (some (.inl r)) (zfC M') :=
  zMet_of hG tbX11_ok rfl (by decide +kernel) (Nat.le_of_ble_eq_true rfl) (fun X _ Z hA hE => m11_liars_ok ⟨Z, hcn, hA⟩ hE x1 M h)
abbrev q4_earHears : ByteArray × Nat × String × zT := (cX4_earHears, 3, RX4, tbX4)
def m4_earHears (x1 : Int32) (x2 : Int32) (M : cM) : Option (Int32 × cM) := zbd (m4_hasEar x1 M) (fun r1 M1 => (if r1 = 0 then some ((0 : Int32), M1) else zgd (zin x1 6 && true) ((if ((zshr (cg M1 503 0 (nx x1)) x2) &&& (1 : Int32)) = (1 : Int32) then some ((1 : Int32), M1) else some ((0 : Int32), M1)))))
theorem m4_earHears_ok {X : zX} {G : zG} (Hy : zHy X G q4_earHears zcC 1 21 (some .boolean)) {r : Int32} {M' : cM} (hE : zEnd X G (some (.inl r)) (zfC M')) (x1 : Int32) (x2 : Int32) (M : cM) (h : m4_earHears x1 x2 M = some (r, M')) : zGo (X, q4_earHears, G) 0 0 (0, [(0, .inr (.inr (some (4, 0)))), (1, .inl x1), (2, .inl x2)], [], zfC M) := by
  unfold m4_earHears at h
  refine zblq Hy.1 Hy.2.1 [(.aload 0, 1), (.iload 1, 1)] (S' := (2, [(0, .inr (.inr (some (4, 0)))), (1, .inl x1), (2, .inl x2)], [.inl x1, .inr (.inr (some (4, 0)))], zfC M)) (b := true) (by decide +kernel) rfl rfl ?_
  obtain ⟨r1, M1, hc1, h⟩ := zbd_inv h
  refine zcallV Hy.1 (as := [.inl x1]) (st := []) (m4_hasEar_met (zOK_G Hy.1) Hy.2.1 hc1) cw4_64 m4_hasEar_in m4_hasEar_se (by decide) (zhlv Hy.2.1 rfl) rfl (zroom Hy.2.2 ⟨by decide, by decide⟩) rfl (by decide +kernel) ⟨Nat.zero_le _, Nat.zero_le _⟩ ?_
  refine zif_eq Hy.1 (off := 21) (tgt := 26) (by decide +kernel) (by decide) (fun hb4 => ?_) (fun hb4 => ?_)
  · replace h := zite_t h hb4
    refine zblq Hy.1 Hy.2.1 [(.iconst 0, 1)] (S' := (27, [(0, .inr (.inr (some (4, 0)))), (1, .inl x1), (2, .inl x2)], [.inl (0 : Int32)], zfC M1)) (b := true) (by decide +kernel) rfl rfl ?_
    cases h
    exact zret_z Hy.1 Hy.2.2 (by decide) hE (by decide +kernel)
  · replace h := zite_f h hb4
    obtain ⟨hg2, h⟩ := zgd_inv h
    refine zblq Hy.1 Hy.2.1 [(.aload 0, 1), (.getfield 403, 3), (.iload 1, 1), (.iaload, 1), (.iload 2, 1), (.ishr, 1), (.iconst 1, 1), (.iand, 1), (.iconst 1, 1)] (S' := (19, [(0, .inr (.inr (some (4, 0)))), (1, .inl x1), (2, .inl x2)], [.inl (1 : Int32), .inl ((zshr (cg M1 503 0 (nx x1)) x2) &&& (1 : Int32))], zfC M1)) (b := zin x1 6 && true) (by decide +kernel) rfl hg2 ?_
    refine zic_ne Hy.1 (off := 7) (tgt := 26) (by decide +kernel) (by decide) (fun hb3 => ?_) (fun hb3 => ?_)
    · replace h := zite_f h hb3
      refine zblq Hy.1 Hy.2.1 [(.iconst 0, 1)] (S' := (27, [(0, .inr (.inr (some (4, 0)))), (1, .inl x1), (2, .inl x2)], [.inl (0 : Int32)], zfC M1)) (b := true) (by decide +kernel) rfl rfl ?_
      cases h
      exact zret_z Hy.1 Hy.2.2 (by decide) hE (by decide +kernel)
    · replace h := zite_t h hb3
      refine zblq Hy.1 Hy.2.1 [(.iconst 1, 1), (.ldc 27, 3)] (S' := (27, [(0, .inr (.inr (some (4, 0)))), (1, .inl x1), (2, .inl x2)], [.inl (1 : Int32)], zfC M1)) (b := true) (by decide +kernel) rfl rfl ?_
      cases h
      exact zret_z Hy.1 Hy.2.2 (by decide) hE (by decide +kernel)
theorem m4_earHears_met {l : Launch} {G : zG} (hG : zGok G) (hcn : zgcn G = zcC) {x1 : Int32} {x2 : Int32} {M : cM} {r : Int32} {M' : cM} (h : m4_earHears x1 x2 M = some (r, M')) : zMet l G yX4_earHears cX4_earHears 3 (some .boolean) 1 21 [.inr (.inr (some (4, 0))), .inl x1, .inl x2] (zfC M) (some (.inl r)) (zfC M') :=
  zMet_of hG tbX4_ok rfl (by decide +kernel) (Nat.le_of_ble_eq_true rfl) (fun X _ Z hA hE => m4_earHears_ok ⟨Z, hcn, hA⟩ hE x1 x2 M h)
abbrev q4_missesAt : ByteArray × Nat × String × zT := (cX4_missesAt, 8, RX4, tbX4)
def m4_missesAt_77 (k6 : Int32 → Int32 → Int32 → Int32 → Int32 → cM → Option (Int32 × cM)) (x1 : Int32) (x2 : Int32) (x3 : Int32) (x4 : Int32) (x5 : Int32) (M : cM) : Option (Int32 × cM) := k6 x1 x2 x3 x4 (x5 + (1 : Int32)) M
theorem m4_missesAt_77_ok {X : zX} {G : zG} (Hy : zHy X G q4_missesAt zcC 2 43 (some .int)) {r : Int32} {M' : cM} (hE : zEnd X G (some (.inl r)) (zfC M')) {k6 : Int32 → Int32 → Int32 → Int32 → Int32 → cM → Option (Int32 × cM)} (hk6 : ∀ (x1 : Int32) (x2 : Int32) (x3 : Int32) (x4 : Int32) (x5 : Int32) (M : cM), k6 x1 x2 x3 x4 x5 M = some (r, M') → zGo (X, q4_missesAt, G) 0 0 (6, [(0, .inr (.inr (some (4, 0)))), (1, .inl x1), (2, .inl x2), (3, .inl x3), (4, .inl x4), (5, .inl x5)], [], zfC M)) (x1 : Int32) (x2 : Int32) (x3 : Int32) (x4 : Int32) (x5 : Int32) (M : cM) (h : m4_missesAt_77 k6 x1 x2 x3 x4 x5 M = some (r, M')) : zGo (X, q4_missesAt, G) 0 0 (77, [(0, .inr (.inr (some (4, 0)))), (1, .inl x1), (2, .inl x2), (3, .inl x3), (4, .inl x4), (5, .inl x5)], [], zfC M) := by
  unfold m4_missesAt_77 at h
  refine zblq Hy.1 Hy.2.1 [(.iinc 5 1, 3), (.ldc 6, 3)] (S' := (6, [(0, .inr (.inr (some (4, 0)))), (1, .inl x1), (2, .inl x2), (3, .inl x3), (4, .inl x4), (5, .inl (x5 + (1 : Int32)))], [], zfC M)) (b := true) (by decide +kernel) rfl rfl ?_
  refine zGo_keep [0, 1, 2, 3, 4, 5] rfl ?_
  exact hk6 x1 x2 x3 x4 (x5 + (1 : Int32)) M h
def m4_missesAt_64 (k6 : Int32 → Int32 → Int32 → Int32 → Int32 → cM → Option (Int32 × cM)) (x1 : Int32) (x2 : Int32) (x3 : Int32) (x4 : Int32) (x5 : Int32) (x6 : Int32) (x7 : Int32) (M : cM) : Option (Int32 × cM) := (if x6 = 0 then (if x7 = 0 then m4_missesAt_77 k6 x1 x2 x3 x4 x5 M else m4_missesAt_77 k6 x1 x2 x3 (x4 + (1 : Int32)) x5 M) else m4_missesAt_77 k6 x1 x2 x3 x4 x5 M)
theorem m4_missesAt_64_ok {X : zX} {G : zG} (Hy : zHy X G q4_missesAt zcC 2 43 (some .int)) {r : Int32} {M' : cM} (hE : zEnd X G (some (.inl r)) (zfC M')) {k6 : Int32 → Int32 → Int32 → Int32 → Int32 → cM → Option (Int32 × cM)} (hk6 : ∀ (x1 : Int32) (x2 : Int32) (x3 : Int32) (x4 : Int32) (x5 : Int32) (M : cM), k6 x1 x2 x3 x4 x5 M = some (r, M') → zGo (X, q4_missesAt, G) 0 0 (6, [(0, .inr (.inr (some (4, 0)))), (1, .inl x1), (2, .inl x2), (3, .inl x3), (4, .inl x4), (5, .inl x5)], [], zfC M)) (x1 : Int32) (x2 : Int32) (x3 : Int32) (x4 : Int32) (x5 : Int32) (x6 : Int32) (x7 : Int32) (M : cM) (h : m4_missesAt_64 k6 x1 x2 x3 x4 x5 x6 x7 M = some (r, M')) : zGo (X, q4_missesAt, G) 0 0 (64, [(0, .inr (.inr (some (4, 0)))), (1, .inl x1), (2, .inl x2), (3, .inl x3), (4, .inl x4), (5, .inl x5), (6, .inl x6), (7, .inl x7)], [], zfC M) := by
  unfold m4_missesAt_64 at h
  refine zblq Hy.1 Hy.2.1 [(.iload 6, 2)] (S' := (66, [(0, .inr (.inr (some (4, 0)))), (1, .inl x1), (2, .inl x2), (3, .inl x3), (4, .inl x4), (5, .inl x5), (6, .inl x6), (7, .inl x7)], [.inl x6], zfC M)) (b := true) (by decide +kernel) rfl rfl ?_
  refine zif_ne Hy.1 (off := 11) (tgt := 77) (by decide +kernel) (by decide) (fun hb4 => ?_) (fun hb4 => ?_)
  · replace h := zite_f h hb4
    refine zGo_keep [0, 1, 2, 3, 4, 5] rfl ?_
    exact m4_missesAt_77_ok Hy hE hk6 x1 x2 x3 x4 x5 M h
  · replace h := zite_t h hb4
    refine zblq Hy.1 Hy.2.1 [(.iload 7, 2)] (S' := (71, [(0, .inr (.inr (some (4, 0)))), (1, .inl x1), (2, .inl x2), (3, .inl x3), (4, .inl x4), (5, .inl x5), (6, .inl x6), (7, .inl x7)], [.inl x7], zfC M)) (b := true) (by decide +kernel) rfl rfl ?_
    refine zif_eq Hy.1 (off := 6) (tgt := 77) (by decide +kernel) (by decide) (fun hb3 => ?_) (fun hb3 => ?_)
    · replace h := zite_t h hb3
      refine zGo_keep [0, 1, 2, 3, 4, 5] rfl ?_
      exact m4_missesAt_77_ok Hy hE hk6 x1 x2 x3 x4 x5 M h
    · replace h := zite_f h hb3
      refine zblq Hy.1 Hy.2.1 [(.iinc 4 1, 3)] (S' := (77, [(0, .inr (.inr (some (4, 0)))), (1, .inl x1), (2, .inl x2), (3, .inl x3), (4, .inl (x4 + (1 : Int32))), (5, .inl x5), (6, .inl x6), (7, .inl x7)], [], zfC M)) (b := true) (by decide +kernel) rfl rfl ?_
      refine zGo_keep [0, 1, 2, 3, 4, 5] rfl ?_
      exact m4_missesAt_77_ok Hy hE hk6 x1 x2 x3 (x4 + (1 : Int32)) x5 M h
def m4_missesAt_6 : Nat → Int32 → Int32 → Int32 → Int32 → Int32 → cM → Option (Int32 × cM)
  | 0, _, _, _, _, _, _ => none
  | n + 1, x1, x2, x3, x4, x5, M => (if (6 : Int32) ≤ x5 then some (x4, M) else zbd (m4_logOf x5 x1 M) (fun r1 M1 => (if ((zshr x3 x5) &&& (1 : Int32)) = (1 : Int32) then m4_missesAt_77 (m4_missesAt_6 n) x1 x2 x3 x4 x5 M1 else (if r1 = (2 : Int32) then m4_missesAt_77 (m4_missesAt_6 n) x1 x2 x3 x4 x5 M1 else zbd (m4_earHears x5 x2 M1) (fun r2 M2 => (if r1 = (1 : Int32) then (if r2 = 0 then some ((100 : Int32), M2) else m4_missesAt_64 (m4_missesAt_6 n) x1 x2 x3 x4 x5 r1 r2 M2) else m4_missesAt_64 (m4_missesAt_6 n) x1 x2 x3 x4 x5 r1 r2 M2))))))
theorem m4_missesAt_6_ok {X : zX} {G : zG} (Hy : zHy X G q4_missesAt zcC 2 43 (some .int)) {r : Int32} {M' : cM} (hE : zEnd X G (some (.inl r)) (zfC M')) : ∀ (n : Nat) (x1 : Int32) (x2 : Int32) (x3 : Int32) (x4 : Int32) (x5 : Int32) (M : cM), m4_missesAt_6 n x1 x2 x3 x4 x5 M = some (r, M') → zGo (X, q4_missesAt, G) 0 0 (6, [(0, .inr (.inr (some (4, 0)))), (1, .inl x1), (2, .inl x2), (3, .inl x3), (4, .inl x4), (5, .inl x5)], [], zfC M) := by
  intro n
  induction n with
  | zero => intro x1 x2 x3 x4 x5 M h; cases h
  | succ n ih =>
    intro x1 x2 x3 x4 x5 M h
    unfold m4_missesAt_6 at h
    refine zblq Hy.1 Hy.2.1 [(.iload 5, 2), (.iconst 6, 2)] (S' := (10, [(0, .inr (.inr (some (4, 0)))), (1, .inl x1), (2, .inl x2), (3, .inl x3), (4, .inl x4), (5, .inl x5)], [.inl (6 : Int32), .inl x5], zfC M)) (b := true) (by decide +kernel) rfl rfl ?_
    refine zic_ge Hy.1 (off := 73) (tgt := 83) (by decide +kernel) (by decide) (fun hb9 => ?_) (fun hb9 => ?_)
    · replace h := zite_t h hb9
      refine zblq Hy.1 Hy.2.1 [(.iload 4, 2)] (S' := (85, [(0, .inr (.inr (some (4, 0)))), (1, .inl x1), (2, .inl x2), (3, .inl x3), (4, .inl x4), (5, .inl x5)], [.inl x4], zfC M)) (b := true) (by decide +kernel) rfl rfl ?_
      cases h
      exact zret_i Hy.1 Hy.2.2 hE (by decide +kernel)
    · replace h := zite_f h hb9
      refine zblq Hy.1 Hy.2.1 [(.aload 0, 1), (.iload 5, 2), (.iload 1, 1)] (S' := (17, [(0, .inr (.inr (some (4, 0)))), (1, .inl x1), (2, .inl x2), (3, .inl x3), (4, .inl x4), (5, .inl x5)], [.inl x1, .inl x5, .inr (.inr (some (4, 0)))], zfC M)) (b := true) (by decide +kernel) rfl rfl ?_
      obtain ⟨r1, M1, hc1, h⟩ := zbd_inv h
      refine zcallV Hy.1 (as := [.inl x5, .inl x1]) (st := []) (m4_logOf_met (zOK_G Hy.1) Hy.2.1 hc1) cw4_60 m4_logOf_in m4_logOf_se (by decide) (zhlv Hy.2.1 rfl) rfl (zroom Hy.2.2 ⟨by decide, by decide⟩) rfl (by decide +kernel) ⟨Nat.zero_le _, Nat.zero_le _⟩ ?_
      refine zblq Hy.1 Hy.2.1 [(.istore 6, 2), (.iload 3, 1), (.iload 5, 2), (.ishr, 1), (.iconst 1, 1), (.iand, 1), (.iconst 1, 1)] (S' := (29, [(0, .inr (.inr (some (4, 0)))), (1, .inl x1), (2, .inl x2), (3, .inl x3), (4, .inl x4), (5, .inl x5), (6, .inl r1)], [.inl (1 : Int32), .inl ((zshr x3 x5) &&& (1 : Int32))], zfC M1)) (b := true) (by decide +kernel) rfl rfl ?_
      refine zic_eq Hy.1 (off := 48) (tgt := 77) (by decide +kernel) (by decide) (fun hb8 => ?_) (fun hb8 => ?_)
      · replace h := zite_t h hb8
        refine zGo_keep [0, 1, 2, 3, 4, 5] rfl ?_
        exact m4_missesAt_77_ok Hy hE ih x1 x2 x3 x4 x5 M1 h
      · replace h := zite_f h hb8
        refine zblq Hy.1 Hy.2.1 [(.iload 6, 2), (.iconst 2, 1)] (S' := (35, [(0, .inr (.inr (some (4, 0)))), (1, .inl x1), (2, .inl x2), (3, .inl x3), (4, .inl x4), (5, .inl x5), (6, .inl r1)], [.inl (2 : Int32), .inl r1], zfC M1)) (b := true) (by decide +kernel) rfl rfl ?_
        refine zic_ne Hy.1 (off := 6) (tgt := 41) (by decide +kernel) (by decide) (fun hb7 => ?_) (fun hb7 => ?_)
        · replace h := zite_f h hb7
          refine zblq Hy.1 Hy.2.1 [(.aload 0, 1), (.iload 5, 2), (.iload 2, 1)] (S' := (45, [(0, .inr (.inr (some (4, 0)))), (1, .inl x1), (2, .inl x2), (3, .inl x3), (4, .inl x4), (5, .inl x5), (6, .inl r1)], [.inl x2, .inl x5, .inr (.inr (some (4, 0)))], zfC M1)) (b := true) (by decide +kernel) rfl rfl ?_
          obtain ⟨r2, M2, hc2, h⟩ := zbd_inv h
          refine zcallV Hy.1 (as := [.inl x5, .inl x2]) (st := []) (m4_earHears_met (zOK_G Hy.1) Hy.2.1 hc2) cw4_71 m4_earHears_in m4_earHears_se (by decide) (zhlv Hy.2.1 rfl) rfl (zroom Hy.2.2 ⟨by decide, by decide⟩) rfl (by decide +kernel) ⟨Nat.zero_le _, Nat.zero_le _⟩ ?_
          refine zblq Hy.1 Hy.2.1 [(.istore 7, 2), (.iload 6, 2), (.iconst 1, 1)] (S' := (53, [(0, .inr (.inr (some (4, 0)))), (1, .inl x1), (2, .inl x2), (3, .inl x3), (4, .inl x4), (5, .inl x5), (6, .inl r1), (7, .inl r2)], [.inl (1 : Int32), .inl r1], zfC M2)) (b := true) (by decide +kernel) rfl rfl ?_
          refine zic_ne Hy.1 (off := 11) (tgt := 64) (by decide +kernel) (by decide) (fun hb6 => ?_) (fun hb6 => ?_)
          · replace h := zite_f h hb6
            refine zGo_keep [0, 1, 2, 3, 4, 5, 6, 7] rfl ?_
            exact m4_missesAt_64_ok Hy hE ih x1 x2 x3 x4 x5 r1 r2 M2 h
          · replace h := zite_t h hb6
            refine zblq Hy.1 Hy.2.1 [(.iload 7, 2)] (S' := (58, [(0, .inr (.inr (some (4, 0)))), (1, .inl x1), (2, .inl x2), (3, .inl x3), (4, .inl x4), (5, .inl x5), (6, .inl r1), (7, .inl r2)], [.inl r2], zfC M2)) (b := true) (by decide +kernel) rfl rfl ?_
            refine zif_ne Hy.1 (off := 6) (tgt := 64) (by decide +kernel) (by decide) (fun hb5 => ?_) (fun hb5 => ?_)
            · replace h := zite_f h hb5
              refine zGo_keep [0, 1, 2, 3, 4, 5, 6, 7] rfl ?_
              exact m4_missesAt_64_ok Hy hE ih x1 x2 x3 x4 x5 r1 r2 M2 h
            · replace h := zite_t h hb5
              refine zblq Hy.1 Hy.2.1 [(.iconst 100, 2)] (S' := (63, [(0, .inr (.inr (some (4, 0)))), (1, .inl x1), (2, .inl x2), (3, .inl x3), (4, .inl x4), (5, .inl x5), (6, .inl r1), (7, .inl r2)], [.inl (100 : Int32)], zfC M2)) (b := true) (by decide +kernel) rfl rfl ?_
              cases h
              exact zret_i Hy.1 Hy.2.2 hE (by decide +kernel)
        · replace h := zite_t h hb7
          refine zblq Hy.1 Hy.2.1 [(.ldc 77, 3)] (S' := (77, [(0, .inr (.inr (some (4, 0)))), (1, .inl x1), (2, .inl x2), (3, .inl x3), (4, .inl x4), (5, .inl x5), (6, .inl r1)], [], zfC M1)) (b := true) (by decide +kernel) rfl rfl ?_
          refine zGo_keep [0, 1, 2, 3, 4, 5] rfl ?_
          exact m4_missesAt_77_ok Hy hE ih x1 x2 x3 x4 x5 M1 h
def m4_missesAt (x1 : Int32) (x2 : Int32) (x3 : Int32) (M : cM) : Option (Int32 × cM) := m4_missesAt_6 zfu x1 x2 x3 (0 : Int32) (0 : Int32) M
theorem m4_missesAt_ok {X : zX} {G : zG} (Hy : zHy X G q4_missesAt zcC 2 43 (some .int)) {r : Int32} {M' : cM} (hE : zEnd X G (some (.inl r)) (zfC M')) (x1 : Int32) (x2 : Int32) (x3 : Int32) (M : cM) (h : m4_missesAt x1 x2 x3 M = some (r, M')) : zGo (X, q4_missesAt, G) 0 0 (0, [(0, .inr (.inr (some (4, 0)))), (1, .inl x1), (2, .inl x2), (3, .inl x3)], [], zfC M) := by
  unfold m4_missesAt at h
  refine zblq Hy.1 Hy.2.1 [(.iconst 0, 1), (.istore 4, 2), (.iconst 0, 1), (.istore 5, 2)] (S' := (6, [(0, .inr (.inr (some (4, 0)))), (1, .inl x1), (2, .inl x2), (3, .inl x3), (4, .inl (0 : Int32)), (5, .inl (0 : Int32))], [], zfC M)) (b := true) (by decide +kernel) rfl rfl ?_
  refine zGo_keep [0, 1, 2, 3, 4, 5] rfl ?_
  exact m4_missesAt_6_ok Hy hE zfu x1 x2 x3 (0 : Int32) (0 : Int32) M h
theorem m4_missesAt_met {l : Launch} {G : zG} (hG : zGok G) (hcn : zgcn G = zcC) {x1 : Int32} {x2 : Int32} {x3 : Int32} {M : cM} {r : Int32} {M' : cM} (h : m4_missesAt x1 x2 x3 M = some (r, M')) : zMet l G yX4_missesAt cX4_missesAt 8 (some .int) 2 43 [.inr (.inr (some (4, 0))), .inl x1, .inl x2, .inl x3] (zfC M) (some (.inl r)) (zfC M') :=
  zMet_of hG tbX4_ok rfl (by decide +kernel) (Nat.le_of_ble_eq_true rfl) (fun X _ Z hA hE => m4_missesAt_ok ⟨Z, hcn, hA⟩ hE x1 x2 x3 M h)
abbrev q4_weighSpots : ByteArray × Nat × String × zT := (cX4_weighSpots, 4, RX4, tbX4)
def m4_weighSpots_17 (k2 : Int32 → Int32 → cM → Option cM) : Nat → Int32 → Int32 → Int32 → cM → Option cM
  | 0, _, _, _, _ => none
  | n + 1, x1, x2, x3, M => (if (6 : Int32) ≤ x3 then k2 x1 (x2 + (1 : Int32)) M else zbd (m4_missesAt x2 x3 x1 M) (fun r1 M1 => zgd (zin (((6 : Int32) * x2) + x3) 30 && true) ((m4_weighSpots_17 k2 n) x1 x2 (x3 + (1 : Int32)) (cs M1 506 0 (nx (((6 : Int32) * x2) + x3)) r1))))
theorem m4_weighSpots_17_ok {X : zX} {G : zG} (Hy : zHy X G q4_weighSpots zcC 3 70 (none)) {M' : cM} (hE : zEnd X G (none) (zfC M')) {k2 : Int32 → Int32 → cM → Option cM} (hk2 : ∀ (x1 : Int32) (x2 : Int32) (M : cM), k2 x1 x2 M = some M' → zGo (X, q4_weighSpots, G) 0 0 (2, [(0, .inr (.inr (some (4, 0)))), (1, .inl x1), (2, .inl x2)], [], zfC M)) : ∀ (n : Nat) (x1 : Int32) (x2 : Int32) (x3 : Int32) (M : cM), m4_weighSpots_17 k2 n x1 x2 x3 M = some M' → zGo (X, q4_weighSpots, G) 0 0 (17, [(0, .inr (.inr (some (4, 0)))), (1, .inl x1), (2, .inl x2), (3, .inl x3)], [], zfC M) := by
  intro n
  induction n with
  | zero => intro x1 x2 x3 M h; cases h
  | succ n ih =>
    intro x1 x2 x3 M h
    unfold m4_weighSpots_17 at h
    refine zblq Hy.1 Hy.2.1 [(.iload 3, 1), (.iconst 6, 2)] (S' := (20, [(0, .inr (.inr (some (4, 0)))), (1, .inl x1), (2, .inl x2), (3, .inl x3)], [.inl (6 : Int32), .inl x3], zfC M)) (b := true) (by decide +kernel) rfl rfl ?_
    refine zic_ge Hy.1 (off := 27) (tgt := 47) (by decide +kernel) (by decide) (fun hb3 => ?_) (fun hb3 => ?_)
    · replace h := zite_t h hb3
      refine zblq Hy.1 Hy.2.1 [(.iinc 2 1, 3), (.ldc 2, 3)] (S' := (2, [(0, .inr (.inr (some (4, 0)))), (1, .inl x1), (2, .inl (x2 + (1 : Int32))), (3, .inl x3)], [], zfC M)) (b := true) (by decide +kernel) rfl rfl ?_
      refine zGo_keep [0, 1, 2] rfl ?_
      exact hk2 x1 (x2 + (1 : Int32)) M h
    · replace h := zite_f h hb3
      refine zblq Hy.1 Hy.2.1 [(.aload 0, 1), (.getfield 406, 3), (.iconst 6, 2), (.iload 2, 1), (.imul, 1), (.iload 3, 1), (.iadd, 1), (.aload 0, 1), (.iload 2, 1), (.iload 3, 1), (.iload 1, 1)] (S' := (37, [(0, .inr (.inr (some (4, 0)))), (1, .inl x1), (2, .inl x2), (3, .inl x3)], [.inl x1, .inl x3, .inl x2, .inr (.inr (some (4, 0))), .inl (((6 : Int32) * x2) + x3), .inr (.inr (some (506, 0)))], zfC M)) (b := true) (by decide +kernel) rfl rfl ?_
      obtain ⟨r1, M1, hc1, h⟩ := zbd_inv h
      refine zcallV Hy.1 (as := [.inl x2, .inl x3, .inl x1]) (st := [.inl (((6 : Int32) * x2) + x3), .inr (.inr (some (506, 0)))]) (m4_missesAt_met (zOK_G Hy.1) Hy.2.1 hc1) cw4_67 m4_missesAt_in m4_missesAt_se (by decide) (zhlv Hy.2.1 rfl) rfl (zroom Hy.2.2 ⟨by decide, by decide⟩) rfl (by decide +kernel) ⟨Nat.zero_le _, Nat.zero_le _⟩ ?_
      obtain ⟨hg2, h⟩ := zgd_inv h
      refine zblq Hy.1 Hy.2.1 [(.iastore, 1), (.iinc 3 1, 3), (.ldc 17, 3)] (S' := (17, [(0, .inr (.inr (some (4, 0)))), (1, .inl x1), (2, .inl x2), (3, .inl (x3 + (1 : Int32)))], [], zfC (cs M1 506 0 (nx (((6 : Int32) * x2) + x3)) r1))) (b := zin (((6 : Int32) * x2) + x3) 30 && true) (by decide +kernel) rfl hg2 ?_
      refine zGo_keep [0, 1, 2, 3] rfl ?_
      exact ih x1 x2 (x3 + (1 : Int32)) (cs M1 506 0 (nx (((6 : Int32) * x2) + x3)) r1) h
def m4_weighSpots_2 : Nat → Int32 → Int32 → cM → Option cM
  | 0, _, _, _ => none
  | n + 1, x1, x2, M => (if (cg M 4 0 1) ≤ x2 then some M else (if (5 : Int32) ≤ x2 then some M else m4_weighSpots_17 (m4_weighSpots_2 n) zfu x1 x2 (0 : Int32) M))
theorem m4_weighSpots_2_ok {X : zX} {G : zG} (Hy : zHy X G q4_weighSpots zcC 3 70 (none)) {M' : cM} (hE : zEnd X G (none) (zfC M')) : ∀ (n : Nat) (x1 : Int32) (x2 : Int32) (M : cM), m4_weighSpots_2 n x1 x2 M = some M' → zGo (X, q4_weighSpots, G) 0 0 (2, [(0, .inr (.inr (some (4, 0)))), (1, .inl x1), (2, .inl x2)], [], zfC M) := by
  intro n
  induction n with
  | zero => intro x1 x2 M h; cases h
  | succ n ih =>
    intro x1 x2 M h
    unfold m4_weighSpots_2 at h
    refine zblq Hy.1 Hy.2.1 [(.iload 2, 1), (.aload 0, 1), (.multianewarray 4 1, 3)] (S' := (7, [(0, .inr (.inr (some (4, 0)))), (1, .inl x1), (2, .inl x2)], [.inl (cg M 4 0 1), .inl x2], zfC M)) (b := true) (by decide +kernel) rfl rfl ?_
    refine zic_ge Hy.1 (off := 46) (tgt := 53) (by decide +kernel) (by decide) (fun hb5 => ?_) (fun hb5 => ?_)
    · replace h := zite_t h hb5
      cases h
      exact zret_v Hy.1 Hy.2.2 hE (by decide +kernel)
    · replace h := zite_f h hb5
      refine zblq Hy.1 Hy.2.1 [(.iload 2, 1), (.iconst 5, 1)] (S' := (12, [(0, .inr (.inr (some (4, 0)))), (1, .inl x1), (2, .inl x2)], [.inl (5 : Int32), .inl x2], zfC M)) (b := true) (by decide +kernel) rfl rfl ?_
      refine zic_ge Hy.1 (off := 41) (tgt := 53) (by decide +kernel) (by decide) (fun hb4 => ?_) (fun hb4 => ?_)
      · replace h := zite_t h hb4
        cases h
        exact zret_v Hy.1 Hy.2.2 hE (by decide +kernel)
      · replace h := zite_f h hb4
        refine zblq Hy.1 Hy.2.1 [(.iconst 0, 1), (.istore 3, 1)] (S' := (17, [(0, .inr (.inr (some (4, 0)))), (1, .inl x1), (2, .inl x2), (3, .inl (0 : Int32))], [], zfC M)) (b := true) (by decide +kernel) rfl rfl ?_
        refine zGo_keep [0, 1, 2, 3] rfl ?_
        exact m4_weighSpots_17_ok Hy hE ih zfu x1 x2 (0 : Int32) M h
def m4_weighSpots (x1 : Int32) (M : cM) : Option cM := m4_weighSpots_2 zfu x1 (0 : Int32) M
theorem m4_weighSpots_ok {X : zX} {G : zG} (Hy : zHy X G q4_weighSpots zcC 3 70 (none)) {M' : cM} (hE : zEnd X G (none) (zfC M')) (x1 : Int32) (M : cM) (h : m4_weighSpots x1 M = some M') : zGo (X, q4_weighSpots, G) 0 0 (0, [(0, .inr (.inr (some (4, 0)))), (1, .inl x1)], [], zfC M) := by
  unfold m4_weighSpots at h
  refine zblq Hy.1 Hy.2.1 [(.iconst 0, 1), (.istore 2, 1)] (S' := (2, [(0, .inr (.inr (some (4, 0)))), (1, .inl x1), (2, .inl (0 : Int32))], [], zfC M)) (b := true) (by decide +kernel) rfl rfl ?_
  refine zGo_keep [0, 1, 2] rfl ?_
  exact m4_weighSpots_2_ok Hy hE zfu x1 (0 : Int32) M h
theorem m4_weighSpots_met {l : Launch} {G : zG} (hG : zGok G) (hcn : zgcn G = zcC) {x1 : Int32} {M : cM} {M' : cM} (h : m4_weighSpots x1 M = some M') : zMet l G yX4_weighSpots cX4_weighSpots 4 (none) 3 70 [.inr (.inr (some (4, 0))), .inl x1] (zfC M) (none) (zfC M') :=
  zMet_of hG tbX4_ok rfl (by decide +kernel) (Nat.le_of_ble_eq_true rfl) (fun X _ Z hA hE => m4_weighSpots_ok ⟨Z, hcn, hA⟩ hE x1 M h)
abbrev q4_missedAt : ByteArray × Nat × String × zT := (cX4_missedAt, 4, RX4, tbX4)
def m4_missedAt (x1 : Int32) (x2 : Int32) (M : cM) : Option (Int32 × cM) := (if (((6 : Int32) * x1) + x2) < 0 then some ((100 : Int32), M) else (if (30 : Int32) ≤ (((6 : Int32) * x1) + x2) then some ((100 : Int32), M) else zgd (zin (((6 : Int32) * x1) + x2) 30 && true) (some (cg M 506 0 (nx (((6 : Int32) * x1) + x2)), M))))
theorem m4_missedAt_ok {X : zX} {G : zG} (Hy : zHy X G q4_missedAt zcC 0 0 (some .int)) {r : Int32} {M' : cM} (hE : zEnd X G (some (.inl r)) (zfC M')) (x1 : Int32) (x2 : Int32) (M : cM) (h : m4_missedAt x1 x2 M = some (r, M')) : zGo (X, q4_missedAt, G) 0 0 (0, [(0, .inr (.inr (some (4, 0)))), (1, .inl x1), (2, .inl x2)], [], zfC M) := by
  unfold m4_missedAt at h
  refine zblq Hy.1 Hy.2.1 [(.iconst 6, 2), (.iload 1, 1), (.imul, 1), (.iload 2, 1), (.iadd, 1), (.istore 3, 1), (.iload 3, 1)] (S' := (8, [(0, .inr (.inr (some (4, 0)))), (1, .inl x1), (2, .inl x2), (3, .inl (((6 : Int32) * x1) + x2))], [.inl (((6 : Int32) * x1) + x2)], zfC M)) (b := true) (by decide +kernel) rfl rfl ?_
  refine zif_lt Hy.1 (off := 21) (tgt := 29) (by decide +kernel) (by decide) (fun hb3 => ?_) (fun hb3 => ?_)
  · replace h := zite_t h hb3
    refine zblq Hy.1 Hy.2.1 [(.iconst 100, 2)] (S' := (31, [(0, .inr (.inr (some (4, 0)))), (1, .inl x1), (2, .inl x2), (3, .inl (((6 : Int32) * x1) + x2))], [.inl (100 : Int32)], zfC M)) (b := true) (by decide +kernel) rfl rfl ?_
    cases h
    exact zret_i Hy.1 Hy.2.2 hE (by decide +kernel)
  · replace h := zite_f h hb3
    refine zblq Hy.1 Hy.2.1 [(.iload 3, 1), (.aload 0, 1), (.getfield 406, 3), (.arraylength, 1)] (S' := (17, [(0, .inr (.inr (some (4, 0)))), (1, .inl x1), (2, .inl x2), (3, .inl (((6 : Int32) * x1) + x2))], [.inl (30 : Int32), .inl (((6 : Int32) * x1) + x2)], zfC M)) (b := true) (by decide +kernel) rfl rfl ?_
    refine zic_ge Hy.1 (off := 12) (tgt := 29) (by decide +kernel) (by decide) (fun hb2 => ?_) (fun hb2 => ?_)
    · replace h := zite_t h hb2
      refine zblq Hy.1 Hy.2.1 [(.iconst 100, 2)] (S' := (31, [(0, .inr (.inr (some (4, 0)))), (1, .inl x1), (2, .inl x2), (3, .inl (((6 : Int32) * x1) + x2))], [.inl (100 : Int32)], zfC M)) (b := true) (by decide +kernel) rfl rfl ?_
      cases h
      exact zret_i Hy.1 Hy.2.2 hE (by decide +kernel)
    · replace h := zite_f h hb2
      obtain ⟨hg1, h⟩ := zgd_inv h
      refine zblq Hy.1 Hy.2.1 [(.aload 0, 1), (.getfield 406, 3), (.iload 3, 1), (.iaload, 1), (.ldc 31, 3)] (S' := (31, [(0, .inr (.inr (some (4, 0)))), (1, .inl x1), (2, .inl x2), (3, .inl (((6 : Int32) * x1) + x2))], [.inl (cg M 506 0 (nx (((6 : Int32) * x1) + x2)))], zfC M)) (b := zin (((6 : Int32) * x1) + x2) 30 && true) (by decide +kernel) rfl hg1 ?_
      cases h
      exact zret_i Hy.1 Hy.2.2 hE (by decide +kernel)
theorem m4_missedAt_met {l : Launch} {G : zG} (hG : zGok G) (hcn : zgcn G = zcC) {x1 : Int32} {x2 : Int32} {M : cM} {r : Int32} {M' : cM} (h : m4_missedAt x1 x2 M = some (r, M')) : zMet l G yX4_missedAt cX4_missedAt 4 (some .int) 0 0 [.inr (.inr (some (4, 0))), .inl x1, .inl x2] (zfC M) (some (.inl r)) (zfC M') :=
  zMet_of hG tbX4_ok rfl (by decide +kernel) (Nat.le_of_ble_eq_true rfl) (fun X _ Z hA hE => m4_missedAt_ok ⟨Z, hcn, hA⟩ hE x1 x2 M h)
abbrev q4_mayGo : ByteArray × Nat × String × zT := (cX4_mayGo, 3, RX4, tbX4)
def m4_mayGo (x1 : Int32) (x2 : Int32) (M : cM) : Option (Int32 × cM) := (if x1 = x2 then some ((1 : Int32), M) else zbd (m4_hasSpot x1 M) (fun r1 M1 => (if r1 = 0 then some ((0 : Int32), M1) else zgd (zin x1 6 && true) ((if ((zshr (cg M1 505 0 (nx x1)) x2) &&& (1 : Int32)) = (1 : Int32) then some ((1 : Int32), M1) else some ((0 : Int32), M1))))))
theorem m4_mayGo_ok {X : zX} {G : zG} (Hy : zHy X G q4_mayGo zcC 1 21 (some .boolean)) {r : Int32} {M' : cM} (hE : zEnd X G (some (.inl r)) (zfC M')) (x1 : Int32) (x2 : Int32) (M : cM) (h : m4_mayGo x1 x2 M = some (r, M')) : zGo (X, q4_mayGo, G) 0 0 (0, [(0, .inr (.inr (some (4, 0)))), (1, .inl x1), (2, .inl x2)], [], zfC M) := by
  unfold m4_mayGo at h
  refine zblq Hy.1 Hy.2.1 [(.iload 1, 1), (.iload 2, 1)] (S' := (2, [(0, .inr (.inr (some (4, 0)))), (1, .inl x1), (2, .inl x2)], [.inl x2, .inl x1], zfC M)) (b := true) (by decide +kernel) rfl rfl ?_
  refine zic_eq Hy.1 (off := 25) (tgt := 27) (by decide +kernel) (by decide) (fun hb5 => ?_) (fun hb5 => ?_)
  · replace h := zite_t h hb5
    refine zblq Hy.1 Hy.2.1 [(.iconst 1, 1), (.ldc 32, 3)] (S' := (32, [(0, .inr (.inr (some (4, 0)))), (1, .inl x1), (2, .inl x2)], [.inl (1 : Int32)], zfC M)) (b := true) (by decide +kernel) rfl rfl ?_
    cases h
    exact zret_z Hy.1 Hy.2.2 (by decide) hE (by decide +kernel)
  · replace h := zite_f h hb5
    refine zblq Hy.1 Hy.2.1 [(.aload 0, 1), (.iload 1, 1)] (S' := (7, [(0, .inr (.inr (some (4, 0)))), (1, .inl x1), (2, .inl x2)], [.inl x1, .inr (.inr (some (4, 0)))], zfC M)) (b := true) (by decide +kernel) rfl rfl ?_
    obtain ⟨r1, M1, hc1, h⟩ := zbd_inv h
    refine zcallV Hy.1 (as := [.inl x1]) (st := []) (m4_hasSpot_met (zOK_G Hy.1) Hy.2.1 hc1) cw4_56 m4_hasSpot_in m4_hasSpot_se (by decide) (zhlv Hy.2.1 rfl) rfl (zroom Hy.2.2 ⟨by decide, by decide⟩) rfl (by decide +kernel) ⟨Nat.zero_le _, Nat.zero_le _⟩ ?_
    refine zif_eq Hy.1 (off := 21) (tgt := 31) (by decide +kernel) (by decide) (fun hb4 => ?_) (fun hb4 => ?_)
    · replace h := zite_t h hb4
      refine zblq Hy.1 Hy.2.1 [(.iconst 0, 1)] (S' := (32, [(0, .inr (.inr (some (4, 0)))), (1, .inl x1), (2, .inl x2)], [.inl (0 : Int32)], zfC M1)) (b := true) (by decide +kernel) rfl rfl ?_
      cases h
      exact zret_z Hy.1 Hy.2.2 (by decide) hE (by decide +kernel)
    · replace h := zite_f h hb4
      obtain ⟨hg2, h⟩ := zgd_inv h
      refine zblq Hy.1 Hy.2.1 [(.aload 0, 1), (.getfield 405, 3), (.iload 1, 1), (.iaload, 1), (.iload 2, 1), (.ishr, 1), (.iconst 1, 1), (.iand, 1), (.iconst 1, 1)] (S' := (24, [(0, .inr (.inr (some (4, 0)))), (1, .inl x1), (2, .inl x2)], [.inl (1 : Int32), .inl ((zshr (cg M1 505 0 (nx x1)) x2) &&& (1 : Int32))], zfC M1)) (b := zin x1 6 && true) (by decide +kernel) rfl hg2 ?_
      refine zic_ne Hy.1 (off := 7) (tgt := 31) (by decide +kernel) (by decide) (fun hb3 => ?_) (fun hb3 => ?_)
      · replace h := zite_f h hb3
        refine zblq Hy.1 Hy.2.1 [(.iconst 0, 1)] (S' := (32, [(0, .inr (.inr (some (4, 0)))), (1, .inl x1), (2, .inl x2)], [.inl (0 : Int32)], zfC M1)) (b := true) (by decide +kernel) rfl rfl ?_
        cases h
        exact zret_z Hy.1 Hy.2.2 (by decide) hE (by decide +kernel)
      · replace h := zite_t h hb3
        refine zblq Hy.1 Hy.2.1 [(.iconst 1, 1), (.ldc 32, 3)] (S' := (32, [(0, .inr (.inr (some (4, 0)))), (1, .inl x1), (2, .inl x2)], [.inl (1 : Int32)], zfC M1)) (b := true) (by decide +kernel) rfl rfl ?_
        cases h
        exact zret_z Hy.1 Hy.2.2 (by decide) hE (by decide +kernel)
theorem m4_mayGo_met {l : Launch} {G : zG} (hG : zGok G) (hcn : zgcn G = zcC) {x1 : Int32} {x2 : Int32} {M : cM} {r : Int32} {M' : cM} (h : m4_mayGo x1 x2 M = some (r, M')) : zMet l G yX4_mayGo cX4_mayGo 3 (some .boolean) 1 21 [.inr (.inr (some (4, 0))), .inl x1, .inl x2] (zfC M) (some (.inl r)) (zfC M') :=
  zMet_of hG tbX4_ok rfl (by decide +kernel) (Nat.le_of_ble_eq_true rfl) (fun X _ Z hA hE => m4_mayGo_ok ⟨Z, hcn, hA⟩ hE x1 x2 M h)
abbrev q4_growCourses : ByteArray × Nat × String × zT := (cX4_growCourses, 10, RX4, tbX4)
def m4_growCourses_151 (k47 : Int32 → Int32 → Int32 → Int32 → Int32 → cM → Option (Int32 × cM)) (k68 : Int32 → Int32 → Int32 → Int32 → Int32 → Int32 → Int32 → cM → Option (Int32 × cM)) (x1 : Int32) (x3 : Int32) (x4 : Int32) (x5 : Int32) (x6 : Int32) (x7 : Int32) (x8 : Int32) (M : cM) : Option (Int32 × cM) := k68 x1 x3 x4 x5 x6 x7 (x8 + (1 : Int32)) M
theorem m4_growCourses_151_ok {X : zX} {G : zG} (Hy : zHy X G q4_growCourses zcC 2 43 (some .int)) {r : Int32} {M' : cM} (hE : zEnd X G (some (.inl r)) (zfC M')) {k47 : Int32 → Int32 → Int32 → Int32 → Int32 → cM → Option (Int32 × cM)} (hk47 : ∀ (x1 : Int32) (x3 : Int32) (x4 : Int32) (x5 : Int32) (x6 : Int32) (M : cM), k47 x1 x3 x4 x5 x6 M = some (r, M') → zGo (X, q4_growCourses, G) 0 0 (47, [(0, .inr (.inr (some (4, 0)))), (1, .inl x1), (3, .inl x3), (4, .inl x4), (5, .inl x5), (6, .inl x6)], [], zfC M)) {k68 : Int32 → Int32 → Int32 → Int32 → Int32 → Int32 → Int32 → cM → Option (Int32 × cM)} (hk68 : ∀ (x1 : Int32) (x3 : Int32) (x4 : Int32) (x5 : Int32) (x6 : Int32) (x7 : Int32) (x8 : Int32) (M : cM), k68 x1 x3 x4 x5 x6 x7 x8 M = some (r, M') → zGo (X, q4_growCourses, G) 0 0 (68, [(0, .inr (.inr (some (4, 0)))), (1, .inl x1), (3, .inl x3), (4, .inl x4), (5, .inl x5), (6, .inl x6), (7, .inl x7), (8, .inl x8)], [], zfC M)) (x1 : Int32) (x3 : Int32) (x4 : Int32) (x5 : Int32) (x6 : Int32) (x7 : Int32) (x8 : Int32) (M : cM) (h : m4_growCourses_151 k47 k68 x1 x3 x4 x5 x6 x7 x8 M = some (r, M')) : zGo (X, q4_growCourses, G) 0 0 (151, [(0, .inr (.inr (some (4, 0)))), (1, .inl x1), (3, .inl x3), (4, .inl x4), (5, .inl x5), (6, .inl x6), (7, .inl x7), (8, .inl x8)], [], zfC M) := by
  unfold m4_growCourses_151 at h
  refine zblq Hy.1 Hy.2.1 [(.iinc 8 1, 3), (.ldc 68, 3)] (S' := (68, [(0, .inr (.inr (some (4, 0)))), (1, .inl x1), (3, .inl x3), (4, .inl x4), (5, .inl x5), (6, .inl x6), (7, .inl x7), (8, .inl (x8 + (1 : Int32)))], [], zfC M)) (b := true) (by decide +kernel) rfl rfl ?_
  refine zGo_keep [0, 1, 3, 4, 5, 6, 7, 8] rfl ?_
  exact hk68 x1 x3 x4 x5 x6 x7 (x8 + (1 : Int32)) M h
def m4_growCourses_68 (k47 : Int32 → Int32 → Int32 → Int32 → Int32 → cM → Option (Int32 × cM)) : Nat → Int32 → Int32 → Int32 → Int32 → Int32 → Int32 → Int32 → cM → Option (Int32 × cM)
  | 0, _, _, _, _, _, _, _, _ => none
  | n + 1, x1, x3, x4, x5, x6, x7, x8, M => (if (6 : Int32) ≤ x8 then k47 x1 x3 x4 x5 (x6 + (1 : Int32)) M else zgd (zin x6 1296 && true) (zbd (m4_missedAt x1 x8 M) (fun r4 M4 => (if x3 < (((cg M 511 0 (nx x6)) &&& (3 : Int32)) + r4) then m4_growCourses_151 k47 (m4_growCourses_68 k47 n) x1 x3 x4 x5 x6 x7 x8 M4 else zgd (znz (6 : Int32) && true) (zbd (m4_mayGo (zrem x7 (6 : Int32)) x8 M4) (fun r6 M6 => (if r6 = 0 then m4_growCourses_151 k47 (m4_growCourses_68 k47 n) x1 x3 x4 x5 x6 x7 x8 M6 else (if x5 < (7776 : Int32) then zgd (zin x5 7776 && true) (m4_growCourses_151 k47 (m4_growCourses_68 k47 n) x1 x3 x4 (x5 + (1 : Int32)) x6 x7 x8 (cs M6 510 0 (nx x5) ((zshl (((6 : Int32) * x7) + x8) (2 : Int32)) ||| (((cg M 511 0 (nx x6)) &&& (3 : Int32)) + r4)))) else some (x5, M6)))))))))
theorem m4_growCourses_68_ok {X : zX} {G : zG} (Hy : zHy X G q4_growCourses zcC 2 43 (some .int)) {r : Int32} {M' : cM} (hE : zEnd X G (some (.inl r)) (zfC M')) {k47 : Int32 → Int32 → Int32 → Int32 → Int32 → cM → Option (Int32 × cM)} (hk47 : ∀ (x1 : Int32) (x3 : Int32) (x4 : Int32) (x5 : Int32) (x6 : Int32) (M : cM), k47 x1 x3 x4 x5 x6 M = some (r, M') → zGo (X, q4_growCourses, G) 0 0 (47, [(0, .inr (.inr (some (4, 0)))), (1, .inl x1), (3, .inl x3), (4, .inl x4), (5, .inl x5), (6, .inl x6)], [], zfC M)) : ∀ (n : Nat) (x1 : Int32) (x3 : Int32) (x4 : Int32) (x5 : Int32) (x6 : Int32) (x7 : Int32) (x8 : Int32) (M : cM), m4_growCourses_68 k47 n x1 x3 x4 x5 x6 x7 x8 M = some (r, M') → zGo (X, q4_growCourses, G) 0 0 (68, [(0, .inr (.inr (some (4, 0)))), (1, .inl x1), (3, .inl x3), (4, .inl x4), (5, .inl x5), (6, .inl x6), (7, .inl x7), (8, .inl x8)], [], zfC M) := by
  intro n
  induction n with
  | zero => intro x1 x3 x4 x5 x6 x7 x8 M h; cases h
  | succ n ih =>
    intro x1 x3 x4 x5 x6 x7 x8 M h
    unfold m4_growCourses_68 at h
    refine zblq Hy.1 Hy.2.1 [(.iload 8, 2), (.iconst 6, 2)] (S' := (72, [(0, .inr (.inr (some (4, 0)))), (1, .inl x1), (3, .inl x3), (4, .inl x4), (5, .inl x5), (6, .inl x6), (7, .inl x7), (8, .inl x8)], [.inl (6 : Int32), .inl x8], zfC M)) (b := true) (by decide +kernel) rfl rfl ?_
    refine zic_ge Hy.1 (off := 85) (tgt := 157) (by decide +kernel) (by decide) (fun hb11 => ?_) (fun hb11 => ?_)
    · replace h := zite_t h hb11
      refine zblq Hy.1 Hy.2.1 [(.iinc 6 1, 3), (.ldc 47, 3)] (S' := (47, [(0, .inr (.inr (some (4, 0)))), (1, .inl x1), (3, .inl x3), (4, .inl x4), (5, .inl x5), (6, .inl (x6 + (1 : Int32))), (7, .inl x7), (8, .inl x8)], [], zfC M)) (b := true) (by decide +kernel) rfl rfl ?_
      refine zGo_keep [0, 1, 3, 4, 5, 6] rfl ?_
      exact hk47 x1 x3 x4 x5 (x6 + (1 : Int32)) M h
    · replace h := zite_f h hb11
      obtain ⟨hg3, h⟩ := zgd_inv h
      refine zblq Hy.1 Hy.2.1 [(.aload 0, 1), (.getfield 411, 3), (.iload 6, 2), (.iaload, 1), (.iconst 3, 1), (.iand, 1), (.aload 0, 1), (.iload 1, 1), (.iload 8, 2)] (S' := (88, [(0, .inr (.inr (some (4, 0)))), (1, .inl x1), (3, .inl x3), (4, .inl x4), (5, .inl x5), (6, .inl x6), (7, .inl x7), (8, .inl x8)], [.inl x8, .inl x1, .inr (.inr (some (4, 0))), .inl ((cg M 511 0 (nx x6)) &&& (3 : Int32))], zfC M)) (b := zin x6 1296 && true) (by decide +kernel) rfl hg3 ?_
      obtain ⟨r4, M4, hc4, h⟩ := zbd_inv h
      refine zcallV Hy.1 (as := [.inl x1, .inl x8]) (st := [.inl ((cg M 511 0 (nx x6)) &&& (3 : Int32))]) (m4_missedAt_met (zOK_G Hy.1) Hy.2.1 hc4) cw4_88 m4_missedAt_in m4_missedAt_se (by decide) (zhlv Hy.2.1 rfl) rfl (zroom Hy.2.2 ⟨by decide, by decide⟩) rfl (by decide +kernel) ⟨Nat.zero_le _, Nat.zero_le _⟩ ?_
      refine zblq Hy.1 Hy.2.1 [(.iadd, 1), (.istore 9, 2), (.iload 9, 2), (.iload 3, 1)] (S' := (97, [(0, .inr (.inr (some (4, 0)))), (1, .inl x1), (3, .inl x3), (4, .inl x4), (5, .inl x5), (6, .inl x6), (7, .inl x7), (8, .inl x8), (9, .inl (((cg M 511 0 (nx x6)) &&& (3 : Int32)) + r4))], [.inl x3, .inl (((cg M 511 0 (nx x6)) &&& (3 : Int32)) + r4)], zfC M4)) (b := true) (by decide +kernel) rfl rfl ?_
      refine zic_gt Hy.1 (off := 54) (tgt := 151) (by decide +kernel) (by decide) (fun hb10 => ?_) (fun hb10 => ?_)
      · replace h := zite_t h hb10
        refine zGo_keep [0, 1, 3, 4, 5, 6, 7, 8] rfl ?_
        exact m4_growCourses_151_ok Hy hE hk47 ih x1 x3 x4 x5 x6 x7 x8 M4 h
      · replace h := zite_f h hb10
        obtain ⟨hg5, h⟩ := zgd_inv h
        refine zblq Hy.1 Hy.2.1 [(.aload 0, 1), (.iload 7, 2), (.iconst 6, 2), (.irem, 1), (.iload 8, 2)] (S' := (108, [(0, .inr (.inr (some (4, 0)))), (1, .inl x1), (3, .inl x3), (4, .inl x4), (5, .inl x5), (6, .inl x6), (7, .inl x7), (8, .inl x8), (9, .inl (((cg M 511 0 (nx x6)) &&& (3 : Int32)) + r4))], [.inl x8, .inl (zrem x7 (6 : Int32)), .inr (.inr (some (4, 0)))], zfC M4)) (b := znz (6 : Int32) && true) (by decide +kernel) rfl hg5 ?_
        obtain ⟨r6, M6, hc6, h⟩ := zbd_inv h
        refine zcallV Hy.1 (as := [.inl (zrem x7 (6 : Int32)), .inl x8]) (st := []) (m4_mayGo_met (zOK_G Hy.1) Hy.2.1 hc6) cw4_99 m4_mayGo_in m4_mayGo_se (by decide) (zhlv Hy.2.1 rfl) rfl (zroom Hy.2.2 ⟨by decide, by decide⟩) rfl (by decide +kernel) ⟨Nat.zero_le _, Nat.zero_le _⟩ ?_
        refine zif_ne Hy.1 (off := 6) (tgt := 117) (by decide +kernel) (by decide) (fun hb9 => ?_) (fun hb9 => ?_)
        · replace h := zite_f h hb9
          refine zblq Hy.1 Hy.2.1 [(.iload 5, 2), (.iconst 7776, 3)] (S' := (122, [(0, .inr (.inr (some (4, 0)))), (1, .inl x1), (3, .inl x3), (4, .inl x4), (5, .inl x5), (6, .inl x6), (7, .inl x7), (8, .inl x8), (9, .inl (((cg M 511 0 (nx x6)) &&& (3 : Int32)) + r4))], [.inl (7776 : Int32), .inl x5], zfC M6)) (b := true) (by decide +kernel) rfl rfl ?_
          refine zic_lt Hy.1 (off := 6) (tgt := 128) (by decide +kernel) (by decide) (fun hb8 => ?_) (fun hb8 => ?_)
          · replace h := zite_t h hb8
            obtain ⟨hg7, h⟩ := zgd_inv h
            refine zblq Hy.1 Hy.2.1 [(.aload 0, 1), (.getfield 410, 3), (.iload 5, 2), (.iconst 6, 2), (.iload 7, 2), (.imul, 1), (.iload 8, 2), (.iadd, 1), (.iconst 2, 1), (.ishl, 1), (.iload 9, 2), (.ior, 1), (.iastore, 1), (.iinc 5 1, 3)] (S' := (151, [(0, .inr (.inr (some (4, 0)))), (1, .inl x1), (3, .inl x3), (4, .inl x4), (5, .inl (x5 + (1 : Int32))), (6, .inl x6), (7, .inl x7), (8, .inl x8), (9, .inl (((cg M 511 0 (nx x6)) &&& (3 : Int32)) + r4))], [], zfC (cs M6 510 0 (nx x5) ((zshl (((6 : Int32) * x7) + x8) (2 : Int32)) ||| (((cg M 511 0 (nx x6)) &&& (3 : Int32)) + r4))))) (b := zin x5 7776 && true) (by decide +kernel) rfl hg7 ?_
            refine zGo_keep [0, 1, 3, 4, 5, 6, 7, 8] rfl ?_
            exact m4_growCourses_151_ok Hy hE hk47 ih x1 x3 x4 (x5 + (1 : Int32)) x6 x7 x8 (cs M6 510 0 (nx x5) ((zshl (((6 : Int32) * x7) + x8) (2 : Int32)) ||| (((cg M 511 0 (nx x6)) &&& (3 : Int32)) + r4))) h
          · replace h := zite_f h hb8
            refine zblq Hy.1 Hy.2.1 [(.iload 5, 2)] (S' := (127, [(0, .inr (.inr (some (4, 0)))), (1, .inl x1), (3, .inl x3), (4, .inl x4), (5, .inl x5), (6, .inl x6), (7, .inl x7), (8, .inl x8), (9, .inl (((cg M 511 0 (nx x6)) &&& (3 : Int32)) + r4))], [.inl x5], zfC M6)) (b := true) (by decide +kernel) rfl rfl ?_
            cases h
            exact zret_i Hy.1 Hy.2.2 hE (by decide +kernel)
        · replace h := zite_t h hb9
          refine zblq Hy.1 Hy.2.1 [(.ldc 151, 3)] (S' := (151, [(0, .inr (.inr (some (4, 0)))), (1, .inl x1), (3, .inl x3), (4, .inl x4), (5, .inl x5), (6, .inl x6), (7, .inl x7), (8, .inl x8), (9, .inl (((cg M 511 0 (nx x6)) &&& (3 : Int32)) + r4))], [], zfC M6)) (b := true) (by decide +kernel) rfl rfl ?_
          refine zGo_keep [0, 1, 3, 4, 5, 6, 7, 8] rfl ?_
          exact m4_growCourses_151_ok Hy hE hk47 ih x1 x3 x4 x5 x6 x7 x8 M6 h
def m4_growCourses_47 : Nat → Int32 → Int32 → Int32 → Int32 → Int32 → cM → Option (Int32 × cM)
  | 0, _, _, _, _, _, _ => none
  | n + 1, x1, x3, x4, x5, x6, M => (if x4 ≤ x6 then some (x5, M) else zgd (zin x6 1296 && true) (m4_growCourses_68 (m4_growCourses_47 n) zfu x1 x3 x4 x5 x6 (zshr (cg M 511 0 (nx x6)) (2 : Int32)) (0 : Int32) M))
theorem m4_growCourses_47_ok {X : zX} {G : zG} (Hy : zHy X G q4_growCourses zcC 2 43 (some .int)) {r : Int32} {M' : cM} (hE : zEnd X G (some (.inl r)) (zfC M')) : ∀ (n : Nat) (x1 : Int32) (x3 : Int32) (x4 : Int32) (x5 : Int32) (x6 : Int32) (M : cM), m4_growCourses_47 n x1 x3 x4 x5 x6 M = some (r, M') → zGo (X, q4_growCourses, G) 0 0 (47, [(0, .inr (.inr (some (4, 0)))), (1, .inl x1), (3, .inl x3), (4, .inl x4), (5, .inl x5), (6, .inl x6)], [], zfC M) := by
  intro n
  induction n with
  | zero => intro x1 x3 x4 x5 x6 M h; cases h
  | succ n ih =>
    intro x1 x3 x4 x5 x6 M h
    unfold m4_growCourses_47 at h
    refine zblq Hy.1 Hy.2.1 [(.iload 6, 2), (.iload 4, 2)] (S' := (51, [(0, .inr (.inr (some (4, 0)))), (1, .inl x1), (3, .inl x3), (4, .inl x4), (5, .inl x5), (6, .inl x6)], [.inl x4, .inl x6], zfC M)) (b := true) (by decide +kernel) rfl rfl ?_
    refine zic_ge Hy.1 (off := 112) (tgt := 163) (by decide +kernel) (by decide) (fun hb12 => ?_) (fun hb12 => ?_)
    · replace h := zite_t h hb12
      refine zblq Hy.1 Hy.2.1 [(.iload 5, 2)] (S' := (165, [(0, .inr (.inr (some (4, 0)))), (1, .inl x1), (3, .inl x3), (4, .inl x4), (5, .inl x5), (6, .inl x6)], [.inl x5], zfC M)) (b := true) (by decide +kernel) rfl rfl ?_
      cases h
      exact zret_i Hy.1 Hy.2.2 hE (by decide +kernel)
    · replace h := zite_f h hb12
      obtain ⟨hg2, h⟩ := zgd_inv h
      refine zblq Hy.1 Hy.2.1 [(.aload 0, 1), (.getfield 411, 3), (.iload 6, 2), (.iaload, 1), (.iconst 2, 1), (.ishr, 1), (.istore 7, 2), (.iconst 0, 1), (.istore 8, 2)] (S' := (68, [(0, .inr (.inr (some (4, 0)))), (1, .inl x1), (3, .inl x3), (4, .inl x4), (5, .inl x5), (6, .inl x6), (7, .inl (zshr (cg M 511 0 (nx x6)) (2 : Int32))), (8, .inl (0 : Int32))], [], zfC M)) (b := zin x6 1296 && true) (by decide +kernel) rfl hg2 ?_
      refine zGo_keep [0, 1, 3, 4, 5, 6, 7, 8] rfl ?_
      exact m4_growCourses_68_ok Hy hE ih zfu x1 x3 x4 x5 x6 (zshr (cg M 511 0 (nx x6)) (2 : Int32)) (0 : Int32) M h
def m4_growCourses_14 : Nat → Int32 → Int32 → Int32 → Int32 → cM → Option (Int32 × cM)
  | 0, _, _, _, _, _ => none
  | n + 1, x1, x3, x4, x5, M => (if x4 ≤ x5 then m4_growCourses_47 zfu x1 x3 x4 (0 : Int32) (0 : Int32) M else zgd (zin x5 7776 && (zin x5 1296 && true)) ((m4_growCourses_14 n) x1 x3 x4 (x5 + (1 : Int32)) (cs M 511 0 (nx x5) (cg M 510 0 (nx x5)))))
theorem m4_growCourses_14_ok {X : zX} {G : zG} (Hy : zHy X G q4_growCourses zcC 2 43 (some .int)) {r : Int32} {M' : cM} (hE : zEnd X G (some (.inl r)) (zfC M')) : ∀ (n : Nat) (x1 : Int32) (x3 : Int32) (x4 : Int32) (x5 : Int32) (M : cM), m4_growCourses_14 n x1 x3 x4 x5 M = some (r, M') → zGo (X, q4_growCourses, G) 0 0 (14, [(0, .inr (.inr (some (4, 0)))), (1, .inl x1), (3, .inl x3), (4, .inl x4), (5, .inl x5)], [], zfC M) := by
  intro n
  induction n with
  | zero => intro x1 x3 x4 x5 M h; cases h
  | succ n ih =>
    intro x1 x3 x4 x5 M h
    unfold m4_growCourses_14 at h
    refine zblq Hy.1 Hy.2.1 [(.iload 5, 2), (.iload 4, 2)] (S' := (18, [(0, .inr (.inr (some (4, 0)))), (1, .inl x1), (3, .inl x3), (4, .inl x4), (5, .inl x5)], [.inl x4, .inl x5], zfC M)) (b := true) (by decide +kernel) rfl rfl ?_
    refine zic_ge Hy.1 (off := 23) (tgt := 41) (by decide +kernel) (by decide) (fun hb14 => ?_) (fun hb14 => ?_)
    · replace h := zite_t h hb14
      refine zblq Hy.1 Hy.2.1 [(.iconst 0, 1), (.istore 5, 2), (.iconst 0, 1), (.istore 6, 2)] (S' := (47, [(0, .inr (.inr (some (4, 0)))), (1, .inl x1), (3, .inl x3), (4, .inl x4), (5, .inl (0 : Int32)), (6, .inl (0 : Int32))], [], zfC M)) (b := true) (by decide +kernel) rfl rfl ?_
      refine zGo_keep [0, 1, 3, 4, 5, 6] rfl ?_
      exact m4_growCourses_47_ok Hy hE zfu x1 x3 x4 (0 : Int32) (0 : Int32) M h
    · replace h := zite_f h hb14
      obtain ⟨hg13, h⟩ := zgd_inv h
      refine zblq Hy.1 Hy.2.1 [(.aload 0, 1), (.getfield 411, 3), (.iload 5, 2), (.aload 0, 1), (.getfield 410, 3), (.iload 5, 2), (.iaload, 1), (.iastore, 1), (.iinc 5 1, 3), (.ldc 14, 3)] (S' := (14, [(0, .inr (.inr (some (4, 0)))), (1, .inl x1), (3, .inl x3), (4, .inl x4), (5, .inl (x5 + (1 : Int32)))], [], zfC (cs M 511 0 (nx x5) (cg M 510 0 (nx x5))))) (b := zin x5 7776 && (zin x5 1296 && true)) (by decide +kernel) rfl hg13 ?_
      refine zGo_keep [0, 1, 3, 4, 5] rfl ?_
      exact ih x1 x3 x4 (x5 + (1 : Int32)) (cs M 511 0 (nx x5) (cg M 510 0 (nx x5))) h
def m4_growCourses (x1 : Int32) (x2 : Int32) (x3 : Int32) (M : cM) : Option (Int32 × cM) := zbd (mJ9_min x2 (1296 : Int32) M) (fun r1 M1 => m4_growCourses_14 zfu x1 x3 r1 (0 : Int32) M1)
theorem m4_growCourses_ok {X : zX} {G : zG} (Hy : zHy X G q4_growCourses zcC 2 43 (some .int)) {r : Int32} {M' : cM} (hE : zEnd X G (some (.inl r)) (zfC M')) (x1 : Int32) (x2 : Int32) (x3 : Int32) (M : cM) (h : m4_growCourses x1 x2 x3 M = some (r, M')) : zGo (X, q4_growCourses, G) 0 0 (0, [(0, .inr (.inr (some (4, 0)))), (1, .inl x1), (2, .inl x2), (3, .inl x3)], [], zfC M) := by
  unfold m4_growCourses at h
  refine zblq Hy.1 Hy.2.1 [(.iload 2, 1), (.aload 0, 1), (.getfield 411, 3), (.arraylength, 1)] (S' := (6, [(0, .inr (.inr (some (4, 0)))), (1, .inl x1), (2, .inl x2), (3, .inl x3)], [.inl (1296 : Int32), .inl x2], zfC M)) (b := true) (by decide +kernel) rfl rfl ?_
  obtain ⟨r1, M1, hc1, h⟩ := zbd_inv h
  refine zcallS Hy.1 (as := [.inl x2, .inl (1296 : Int32)]) (st := []) (mJ9_min_met (zOK_G Hy.1) Hy.2.1 hc1) cw4_94 mJ9_min_in rfl (zroom Hy.2.2 ⟨by decide, by decide⟩) rfl (by decide +kernel) ⟨Nat.zero_le _, Nat.zero_le _⟩ ?_
  refine zblq Hy.1 Hy.2.1 [(.istore 4, 2), (.iconst 0, 1), (.istore 5, 2)] (S' := (14, [(0, .inr (.inr (some (4, 0)))), (1, .inl x1), (2, .inl x2), (3, .inl x3), (4, .inl r1), (5, .inl (0 : Int32))], [], zfC M1)) (b := true) (by decide +kernel) rfl rfl ?_
  refine zGo_keep [0, 1, 3, 4, 5] rfl ?_
  exact m4_growCourses_14_ok Hy hE zfu x1 x3 r1 (0 : Int32) M1 h
theorem m4_growCourses_met {l : Launch} {G : zG} (hG : zGok G) (hcn : zgcn G = zcC) {x1 : Int32} {x2 : Int32} {x3 : Int32} {M : cM} {r : Int32} {M' : cM} (h : m4_growCourses x1 x2 x3 M = some (r, M')) : zMet l G yX4_growCourses cX4_growCourses 10 (some .int) 2 43 [.inr (.inr (some (4, 0))), .inl x1, .inl x2, .inl x3] (zfC M) (some (.inl r)) (zfC M') :=
  zMet_of hG tbX4_ok rfl (by decide +kernel) (Nat.le_of_ble_eq_true rfl) (fun X _ Z hA hE => m4_growCourses_ok ⟨Z, hcn, hA⟩ hE x1 x2 x3 M h)
abbrev q4_listCourses : ByteArray × Nat × String × zT := (cX4_listCourses, 4, RX4, tbX4)
def m4_listCourses_92 : Nat → Int32 → Int32 → cM → Option (Int32 × cM)
  | 0, _, _, _ => none
  | n + 1, x2, x3, M => (if x2 ≤ x3 then some (x2, M) else (if (7776 : Int32) ≤ x3 then some (x2, M) else zgd (zin x3 7776 && (zin x3 7776 && true)) ((m4_listCourses_92 n) x2 (x3 + (1 : Int32)) (cs M 510 0 (nx x3) (zshr (cg M 510 0 (nx x3)) (2 : Int32))))))
theorem m4_listCourses_92_ok {X : zX} {G : zG} (Hy : zHy X G q4_listCourses zcC 4 93 (some .int)) {r : Int32} {M' : cM} (hE : zEnd X G (some (.inl r)) (zfC M')) : ∀ (n : Nat) (x2 : Int32) (x3 : Int32) (M : cM), m4_listCourses_92 n x2 x3 M = some (r, M') → zGo (X, q4_listCourses, G) 0 0 (92, [(0, .inr (.inr (some (4, 0)))), (2, .inl x2), (3, .inl x3)], [], zfC M) := by
  intro n
  induction n with
  | zero => intro x2 x3 M h; cases h
  | succ n ih =>
    intro x2 x3 M h
    unfold m4_listCourses_92 at h
    refine zblq Hy.1 Hy.2.1 [(.iload 3, 1), (.iload 2, 1)] (S' := (94, [(0, .inr (.inr (some (4, 0)))), (2, .inl x2), (3, .inl x3)], [.inl x2, .inl x3], zfC M)) (b := true) (by decide +kernel) rfl rfl ?_
    refine zic_ge Hy.1 (off := 26) (tgt := 120) (by decide +kernel) (by decide) (fun hb5 => ?_) (fun hb5 => ?_)
    · replace h := zite_t h hb5
      refine zblq Hy.1 Hy.2.1 [(.iload 2, 1)] (S' := (121, [(0, .inr (.inr (some (4, 0)))), (2, .inl x2), (3, .inl x3)], [.inl x2], zfC M)) (b := true) (by decide +kernel) rfl rfl ?_
      cases h
      exact zret_i Hy.1 Hy.2.2 hE (by decide +kernel)
    · replace h := zite_f h hb5
      refine zblq Hy.1 Hy.2.1 [(.iload 3, 1), (.iconst 7776, 3)] (S' := (101, [(0, .inr (.inr (some (4, 0)))), (2, .inl x2), (3, .inl x3)], [.inl (7776 : Int32), .inl x3], zfC M)) (b := true) (by decide +kernel) rfl rfl ?_
      refine zic_ge Hy.1 (off := 19) (tgt := 120) (by decide +kernel) (by decide) (fun hb4 => ?_) (fun hb4 => ?_)
      · replace h := zite_t h hb4
        refine zblq Hy.1 Hy.2.1 [(.iload 2, 1)] (S' := (121, [(0, .inr (.inr (some (4, 0)))), (2, .inl x2), (3, .inl x3)], [.inl x2], zfC M)) (b := true) (by decide +kernel) rfl rfl ?_
        cases h
        exact zret_i Hy.1 Hy.2.2 hE (by decide +kernel)
      · replace h := zite_f h hb4
        obtain ⟨hg3, h⟩ := zgd_inv h
        refine zblq Hy.1 Hy.2.1 [(.aload 0, 1), (.getfield 410, 3), (.iload 3, 1), (.dup2, 1), (.iaload, 1), (.iconst 2, 1), (.ishr, 1), (.iastore, 1), (.iinc 3 1, 3), (.ldc 92, 3)] (S' := (92, [(0, .inr (.inr (some (4, 0)))), (2, .inl x2), (3, .inl (x3 + (1 : Int32)))], [], zfC (cs M 510 0 (nx x3) (zshr (cg M 510 0 (nx x3)) (2 : Int32))))) (b := zin x3 7776 && (zin x3 7776 && true)) (by decide +kernel) rfl hg3 ?_
        refine zGo_keep [0, 2, 3] rfl ?_
        exact ih x2 (x3 + (1 : Int32)) (cs M 510 0 (nx x3) (zshr (cg M 510 0 (nx x3)) (2 : Int32))) h
def m4_listCourses_68 : Nat → Int32 → Int32 → Int32 → cM → Option (Int32 × cM)
  | 0, _, _, _, _ => none
  | n + 1, x1, x2, x3, M => (if (cg M 4 0 1) ≤ x3 then m4_listCourses_92 zfu x2 (0 : Int32) M else zbd (m4_growCourses x3 x2 x1 M) (fun r6 M6 => (m4_listCourses_68 n) x1 r6 (x3 + (1 : Int32)) M6))
theorem m4_listCourses_68_ok {X : zX} {G : zG} (Hy : zHy X G q4_listCourses zcC 4 93 (some .int)) {r : Int32} {M' : cM} (hE : zEnd X G (some (.inl r)) (zfC M')) : ∀ (n : Nat) (x1 : Int32) (x2 : Int32) (x3 : Int32) (M : cM), m4_listCourses_68 n x1 x2 x3 M = some (r, M') → zGo (X, q4_listCourses, G) 0 0 (68, [(0, .inr (.inr (some (4, 0)))), (1, .inl x1), (2, .inl x2), (3, .inl x3)], [], zfC M) := by
  intro n
  induction n with
  | zero => intro x1 x2 x3 M h; cases h
  | succ n ih =>
    intro x1 x2 x3 M h
    unfold m4_listCourses_68 at h
    refine zblq Hy.1 Hy.2.1 [(.iload 3, 1), (.aload 0, 1), (.multianewarray 4 1, 3)] (S' := (73, [(0, .inr (.inr (some (4, 0)))), (1, .inl x1), (2, .inl x2), (3, .inl x3)], [.inl (cg M 4 0 1), .inl x3], zfC M)) (b := true) (by decide +kernel) rfl rfl ?_
    refine zic_ge Hy.1 (off := 17) (tgt := 90) (by decide +kernel) (by decide) (fun hb7 => ?_) (fun hb7 => ?_)
    · replace h := zite_t h hb7
      refine zblq Hy.1 Hy.2.1 [(.iconst 0, 1), (.istore 3, 1)] (S' := (92, [(0, .inr (.inr (some (4, 0)))), (1, .inl x1), (2, .inl x2), (3, .inl (0 : Int32))], [], zfC M)) (b := true) (by decide +kernel) rfl rfl ?_
      refine zGo_keep [0, 2, 3] rfl ?_
      exact m4_listCourses_92_ok Hy hE zfu x2 (0 : Int32) M h
    · replace h := zite_f h hb7
      refine zblq Hy.1 Hy.2.1 [(.aload 0, 1), (.iload 3, 1), (.iload 2, 1), (.iload 1, 1)] (S' := (80, [(0, .inr (.inr (some (4, 0)))), (1, .inl x1), (2, .inl x2), (3, .inl x3)], [.inl x1, .inl x2, .inl x3, .inr (.inr (some (4, 0)))], zfC M)) (b := true) (by decide +kernel) rfl rfl ?_
      obtain ⟨r6, M6, hc6, h⟩ := zbd_inv h
      refine zcallV Hy.1 (as := [.inl x3, .inl x2, .inl x1]) (st := []) (m4_growCourses_met (zOK_G Hy.1) Hy.2.1 hc6) cw4_91 m4_growCourses_in m4_growCourses_se (by decide) (zhlv Hy.2.1 rfl) rfl (zroom Hy.2.2 ⟨by decide, by decide⟩) rfl (by decide +kernel) ⟨Nat.zero_le _, Nat.zero_le _⟩ ?_
      refine zblq Hy.1 Hy.2.1 [(.istore 2, 1), (.iinc 3 1, 3), (.ldc 68, 3)] (S' := (68, [(0, .inr (.inr (some (4, 0)))), (1, .inl x1), (2, .inl r6), (3, .inl (x3 + (1 : Int32)))], [], zfC M6)) (b := true) (by decide +kernel) rfl rfl ?_
      refine zGo_keep [0, 1, 2, 3] rfl ?_
      exact ih x1 r6 (x3 + (1 : Int32)) M6 h
def m4_listCourses_60 (k22 : Int32 → Int32 → Int32 → cM → Option (Int32 × cM)) (x1 : Int32) (x2 : Int32) (x3 : Int32) (M : cM) : Option (Int32 × cM) := k22 x1 x2 (x3 + (1 : Int32)) M
theorem m4_listCourses_60_ok {X : zX} {G : zG} (Hy : zHy X G q4_listCourses zcC 4 93 (some .int)) {r : Int32} {M' : cM} (hE : zEnd X G (some (.inl r)) (zfC M')) {k22 : Int32 → Int32 → Int32 → cM → Option (Int32 × cM)} (hk22 : ∀ (x1 : Int32) (x2 : Int32) (x3 : Int32) (M : cM), k22 x1 x2 x3 M = some (r, M') → zGo (X, q4_listCourses, G) 0 0 (22, [(0, .inr (.inr (some (4, 0)))), (1, .inl x1), (2, .inl x2), (3, .inl x3)], [], zfC M)) (x1 : Int32) (x2 : Int32) (x3 : Int32) (M : cM) (h : m4_listCourses_60 k22 x1 x2 x3 M = some (r, M')) : zGo (X, q4_listCourses, G) 0 0 (60, [(0, .inr (.inr (some (4, 0)))), (1, .inl x1), (2, .inl x2), (3, .inl x3)], [], zfC M) := by
  unfold m4_listCourses_60 at h
  refine zblq Hy.1 Hy.2.1 [(.iinc 3 1, 3), (.ldc 22, 3)] (S' := (22, [(0, .inr (.inr (some (4, 0)))), (1, .inl x1), (2, .inl x2), (3, .inl (x3 + (1 : Int32)))], [], zfC M)) (b := true) (by decide +kernel) rfl rfl ?_
  refine zGo_keep [0, 1, 2, 3] rfl ?_
  exact hk22 x1 x2 (x3 + (1 : Int32)) M h
def m4_listCourses_22 : Nat → Int32 → Int32 → Int32 → cM → Option (Int32 × cM)
  | 0, _, _, _, _ => none
  | n + 1, x1, x2, x3, M => (if (6 : Int32) ≤ x3 then m4_listCourses_68 zfu x1 x2 (1 : Int32) M else zbd (m4_missedAt (0 : Int32) x3 M) (fun r8 M8 => (if r8 ≤ x1 then zbd (m4_missedAt (0 : Int32) x3 M8) (fun r9 M9 => zgd (zin x2 7776 && true) (m4_listCourses_60 (m4_listCourses_22 n) x1 (x2 + (1 : Int32)) x3 (cs M9 510 0 (nx x2) ((zshl x3 (2 : Int32)) ||| r9)))) else m4_listCourses_60 (m4_listCourses_22 n) x1 x2 x3 M8)))
theorem m4_listCourses_22_ok {X : zX} {G : zG} (Hy : zHy X G q4_listCourses zcC 4 93 (some .int)) {r : Int32} {M' : cM} (hE : zEnd X G (some (.inl r)) (zfC M')) : ∀ (n : Nat) (x1 : Int32) (x2 : Int32) (x3 : Int32) (M : cM), m4_listCourses_22 n x1 x2 x3 M = some (r, M') → zGo (X, q4_listCourses, G) 0 0 (22, [(0, .inr (.inr (some (4, 0)))), (1, .inl x1), (2, .inl x2), (3, .inl x3)], [], zfC M) := by
  intro n
  induction n with
  | zero => intro x1 x2 x3 M h; cases h
  | succ n ih =>
    intro x1 x2 x3 M h
    unfold m4_listCourses_22 at h
    refine zblq Hy.1 Hy.2.1 [(.iload 3, 1), (.iconst 6, 2)] (S' := (25, [(0, .inr (.inr (some (4, 0)))), (1, .inl x1), (2, .inl x2), (3, .inl x3)], [.inl (6 : Int32), .inl x3], zfC M)) (b := true) (by decide +kernel) rfl rfl ?_
    refine zic_ge Hy.1 (off := 41) (tgt := 66) (by decide +kernel) (by decide) (fun hb12 => ?_) (fun hb12 => ?_)
    · replace h := zite_t h hb12
      refine zblq Hy.1 Hy.2.1 [(.iconst 1, 1), (.istore 3, 1)] (S' := (68, [(0, .inr (.inr (some (4, 0)))), (1, .inl x1), (2, .inl x2), (3, .inl (1 : Int32))], [], zfC M)) (b := true) (by decide +kernel) rfl rfl ?_
      refine zGo_keep [0, 1, 2, 3] rfl ?_
      exact m4_listCourses_68_ok Hy hE zfu x1 x2 (1 : Int32) M h
    · replace h := zite_f h hb12
      refine zblq Hy.1 Hy.2.1 [(.aload 0, 1), (.iconst 0, 1), (.iload 3, 1)] (S' := (31, [(0, .inr (.inr (some (4, 0)))), (1, .inl x1), (2, .inl x2), (3, .inl x3)], [.inl x3, .inl (0 : Int32), .inr (.inr (some (4, 0)))], zfC M)) (b := true) (by decide +kernel) rfl rfl ?_
      obtain ⟨r8, M8, hc8, h⟩ := zbd_inv h
      refine zcallV Hy.1 (as := [.inl (0 : Int32), .inl x3]) (st := []) (m4_missedAt_met (zOK_G Hy.1) Hy.2.1 hc8) cw4_88 m4_missedAt_in m4_missedAt_se (by decide) (zhlv Hy.2.1 rfl) rfl (zroom Hy.2.2 ⟨by decide, by decide⟩) rfl (by decide +kernel) ⟨Nat.zero_le _, Nat.zero_le _⟩ ?_
      refine zblq Hy.1 Hy.2.1 [(.iload 1, 1)] (S' := (35, [(0, .inr (.inr (some (4, 0)))), (1, .inl x1), (2, .inl x2), (3, .inl x3)], [.inl x1, .inl r8], zfC M8)) (b := true) (by decide +kernel) rfl rfl ?_
      refine zic_le Hy.1 (off := 6) (tgt := 41) (by decide +kernel) (by decide) (fun hb11 => ?_) (fun hb11 => ?_)
      · replace h := zite_t h hb11
        refine zblq Hy.1 Hy.2.1 [(.aload 0, 1), (.getfield 410, 3), (.iload 2, 1), (.iload 3, 1), (.iconst 2, 1), (.ishl, 1), (.aload 0, 1), (.iconst 0, 1), (.iload 3, 1)] (S' := (52, [(0, .inr (.inr (some (4, 0)))), (1, .inl x1), (2, .inl x2), (3, .inl x3)], [.inl x3, .inl (0 : Int32), .inr (.inr (some (4, 0))), .inl (zshl x3 (2 : Int32)), .inl x2, .inr (.inr (some (510, 0)))], zfC M8)) (b := true) (by decide +kernel) rfl rfl ?_
        obtain ⟨r9, M9, hc9, h⟩ := zbd_inv h
        refine zcallV Hy.1 (as := [.inl (0 : Int32), .inl x3]) (st := [.inl (zshl x3 (2 : Int32)), .inl x2, .inr (.inr (some (510, 0)))]) (m4_missedAt_met (zOK_G Hy.1) Hy.2.1 hc9) cw4_88 m4_missedAt_in m4_missedAt_se (by decide) (zhlv Hy.2.1 rfl) rfl (zroom Hy.2.2 ⟨by decide, by decide⟩) rfl (by decide +kernel) ⟨Nat.zero_le _, Nat.zero_le _⟩ ?_
        obtain ⟨hg10, h⟩ := zgd_inv h
        refine zblq Hy.1 Hy.2.1 [(.ior, 1), (.iastore, 1), (.iinc 2 1, 3)] (S' := (60, [(0, .inr (.inr (some (4, 0)))), (1, .inl x1), (2, .inl (x2 + (1 : Int32))), (3, .inl x3)], [], zfC (cs M9 510 0 (nx x2) ((zshl x3 (2 : Int32)) ||| r9)))) (b := zin x2 7776 && true) (by decide +kernel) rfl hg10 ?_
        refine zGo_keep [0, 1, 2, 3] rfl ?_
        exact m4_listCourses_60_ok Hy hE ih x1 (x2 + (1 : Int32)) x3 (cs M9 510 0 (nx x2) ((zshl x3 (2 : Int32)) ||| r9)) h
      · replace h := zite_f h hb11
        refine zblq Hy.1 Hy.2.1 [(.ldc 60, 3)] (S' := (60, [(0, .inr (.inr (some (4, 0)))), (1, .inl x1), (2, .inl x2), (3, .inl x3)], [], zfC M8)) (b := true) (by decide +kernel) rfl rfl ?_
        refine zGo_keep [0, 1, 2, 3] rfl ?_
        exact m4_listCourses_60_ok Hy hE ih x1 x2 x3 M8 h
def m4_listCourses  (M : cM) : Option (Int32 × cM) := zbv (m4_weighSpots (cg M 4 0 2) M) (fun M1 => zbd (m3_setting (6 : Int32) M1) (fun r2 M2 => m4_listCourses_22 zfu r2 (0 : Int32) (0 : Int32) M2))
theorem m4_listCourses_ok {X : zX} {G : zG} (Hy : zHy X G q4_listCourses zcC 4 93 (some .int)) {r : Int32} {M' : cM} (hE : zEnd X G (some (.inl r)) (zfC M'))  (M : cM) (h : m4_listCourses M = some (r, M')) : zGo (X, q4_listCourses, G) 0 0 (0, [(0, .inr (.inr (some (4, 0))))], [], zfC M) := by
  unfold m4_listCourses at h
  refine zblq Hy.1 Hy.2.1 [(.aload 0, 1), (.aload 0, 1), (.multianewarray 4 2, 3)] (S' := (5, [(0, .inr (.inr (some (4, 0))))], [.inl (cg M 4 0 2), .inr (.inr (some (4, 0)))], zfC M)) (b := true) (by decide +kernel) rfl rfl ?_
  obtain ⟨M1, hc1, h⟩ := zbv_inv h
  refine zcallV Hy.1 (as := [.inl (cg M 4 0 2)]) (st := []) (m4_weighSpots_met (zOK_G Hy.1) Hy.2.1 hc1) cw4_78 m4_weighSpots_in m4_weighSpots_se (by decide) (zhlv Hy.2.1 rfl) rfl (zroom Hy.2.2 ⟨by decide, by decide⟩) rfl (by decide +kernel) ⟨Nat.zero_le _, Nat.zero_le _⟩ ?_
  refine zblq Hy.1 Hy.2.1 [(.aload 0, 1), (.getfield 400, 3), (.iconst 6, 2)] (S' := (14, [(0, .inr (.inr (some (4, 0))))], [.inl (6 : Int32), .inr (.inr (some (3, 0)))], zfC M1)) (b := true) (by decide +kernel) rfl rfl ?_
  obtain ⟨r2, M2, hc2, h⟩ := zbd_inv h
  refine zcallV Hy.1 (as := [.inl (6 : Int32)]) (st := []) (m3_setting_met (zOK_G Hy.1) Hy.2.1 hc2) cw4_84 m3_setting_in m3_setting_se (by decide) (zhlv Hy.2.1 rfl) rfl (zroom Hy.2.2 ⟨by decide, by decide⟩) rfl (by decide +kernel) ⟨Nat.zero_le _, Nat.zero_le _⟩ ?_
  refine zblq Hy.1 Hy.2.1 [(.istore 1, 1), (.iconst 0, 1), (.istore 2, 1), (.iconst 0, 1), (.istore 3, 1)] (S' := (22, [(0, .inr (.inr (some (4, 0)))), (1, .inl r2), (2, .inl (0 : Int32)), (3, .inl (0 : Int32))], [], zfC M2)) (b := true) (by decide +kernel) rfl rfl ?_
  refine zGo_keep [0, 1, 2, 3] rfl ?_
  exact m4_listCourses_22_ok Hy hE zfu r2 (0 : Int32) (0 : Int32) M2 h
theorem m4_listCourses_met {l : Launch} {G : zG} (hG : zGok G) (hcn : zgcn G = zcC)  {M : cM} {r : Int32} {M' : cM} (h : m4_listCourses M = some (r, M')) : zMet l G yX4_listCourses cX4_listCourses 4 (some .int) 4 93 [.inr (.inr (some (4, 0)))] (zfC M) (some (.inl r)) (zfC M') :=
  zMet_of hG tbX4_ok rfl (by decide +kernel) (Nat.le_of_ble_eq_true rfl) (fun X _ Z hA hE => m4_listCourses_ok ⟨Z, hcn, hA⟩ hE M h)
abbrev q11_courses : ByteArray × Nat × String × zT := (cX11_courses, 1, RX11, tbX11)
def m11_courses  (M : cM) : Option (Int32 × cM) := zbd (m4_listCourses M) (fun r1 M1 => some (r1, M1))
theorem m11_courses_ok {X : zX} {G : zG} (Hy : zHy X G q11_courses zcC 5 116 (some .int)) {r : Int32} {M' : cM} (hE : zEnd X G (some (.inl r)) (zfC M'))  (M : cM) (h : m11_courses M = some (r, M')) : zGo (X, q11_courses, G) 0 0 (0, [(0, .inr (.inr (some (11, 0))))], [], zfC M) := by
  unfold m11_courses at h
  refine zblq Hy.1 Hy.2.1 [(.aload 0, 1), (.getfield 1106, 3)] (S' := (4, [(0, .inr (.inr (some (11, 0))))], [.inr (.inr (some (4, 0)))], zfC M)) (b := true) (by decide +kernel) rfl rfl ?_
  obtain ⟨r1, M1, hc1, h⟩ := zbd_inv h
  refine zcallV Hy.1 (as := []) (st := []) (m4_listCourses_met (zOK_G Hy.1) Hy.2.1 hc1) cw11_322 m4_listCourses_in m4_listCourses_se (by decide) (zhlv Hy.2.1 rfl) rfl (zroom Hy.2.2 ⟨by decide, by decide⟩) rfl (by decide +kernel) ⟨Nat.zero_le _, Nat.zero_le _⟩ ?_
  cases h
  exact zret_i Hy.1 Hy.2.2 hE (by decide +kernel)
theorem m11_courses_met {l : Launch} {G : zG} (hG : zGok G) (hcn : zgcn G = zcC)  {M : cM} {r : Int32} {M' : cM} (h : m11_courses M = some (r, M')) : zMet l G yX11_courses cX11_courses 1 (some .int) 5 116 [.inr (.inr (some (11, 0)))] (zfC M) (some (.inl r)) (zfC M') :=
  zMet_of hG tbX11_ok rfl (by decide +kernel) (Nat.le_of_ble_eq_true rfl) (fun X _ Z hA hE => m11_courses_ok ⟨Z, hcn, hA⟩ hE M h)
abbrev q4_spotIn : ByteArray × Nat × String × zT := (cX4_spotIn, 4, RX4, tbX4)
def m4_spotIn (x1 : Int32) (x2 : Int32) (M : cM) : Option (Int32 × cM) := (if (((cg M 4 0 1) - (1 : Int32)) - x2) < 0 then some ((0 : Int32), M) else (if (((cg M 4 0 1) - (1 : Int32)) - x2) < (Int32.ofNat (zsl 2)) then zgd (zin (((cg M 4 0 1) - (1 : Int32)) - x2) 5 && (znz (zsv 2 (nx (((cg M 4 0 1) - (1 : Int32)) - x2))) && (znz (6 : Int32) && true))) (some (zrem (x1 / (zsv 2 (nx (((cg M 4 0 1) - (1 : Int32)) - x2)))) (6 : Int32), M)) else some ((0 : Int32), M)))
theorem m4_spotIn_ok {X : zX} {G : zG} (Hy : zHy X G q4_spotIn zcC 0 0 (some .int)) {r : Int32} {M' : cM} (hE : zEnd X G (some (.inl r)) (zfC M')) (x1 : Int32) (x2 : Int32) (M : cM) (h : m4_spotIn x1 x2 M = some (r, M')) : zGo (X, q4_spotIn, G) 0 0 (0, [(0, .inr (.inr (some (4, 0)))), (1, .inl x1), (2, .inl x2)], [], zfC M) := by
  unfold m4_spotIn at h
  refine zblq Hy.1 Hy.2.1 [(.aload 0, 1), (.multianewarray 4 1, 3), (.iconst 1, 1), (.isub, 1), (.iload 2, 1), (.isub, 1), (.istore 3, 1), (.iload 3, 1)] (S' := (10, [(0, .inr (.inr (some (4, 0)))), (1, .inl x1), (2, .inl x2), (3, .inl (((cg M 4 0 1) - (1 : Int32)) - x2))], [.inl (((cg M 4 0 1) - (1 : Int32)) - x2)], zfC M)) (b := true) (by decide +kernel) rfl rfl ?_
  refine zif_lt Hy.1 (off := 11) (tgt := 21) (by decide +kernel) (by decide) (fun hb3 => ?_) (fun hb3 => ?_)
  · replace h := zite_t h hb3
    refine zblq Hy.1 Hy.2.1 [(.iconst 0, 1)] (S' := (22, [(0, .inr (.inr (some (4, 0)))), (1, .inl x1), (2, .inl x2), (3, .inl (((cg M 4 0 1) - (1 : Int32)) - x2))], [.inl (0 : Int32)], zfC M)) (b := true) (by decide +kernel) rfl rfl ?_
    cases h
    exact zret_i Hy.1 Hy.2.2 hE (by decide +kernel)
  · replace h := zite_f h hb3
    refine zblq Hy.1 Hy.2.1 [(.iload 3, 1), (.getstatic 2, 3)] (S' := (17, [(0, .inr (.inr (some (4, 0)))), (1, .inl x1), (2, .inl x2), (3, .inl (((cg M 4 0 1) - (1 : Int32)) - x2))], [.inr (.inr (some (2002, 0))), .inl (((cg M 4 0 1) - (1 : Int32)) - x2)], zfC M)) (b := true) (by decide +kernel) rfl rfl ?_
    refine z_slen Hy.1 2 (by decide) (by decide +kernel) ?_
    refine zic_lt Hy.1 (off := 5) (tgt := 23) (by decide +kernel) (by decide) (fun hb2 => ?_) (fun hb2 => ?_)
    · replace h := zite_t h hb2
      obtain ⟨hg1, h⟩ := zgd_inv h
      refine zblq Hy.1 Hy.2.1 [(.iload 1, 1), (.getstatic 2, 3), (.iload 3, 1), (.iaload, 1), (.idiv, 1), (.iconst 6, 2), (.irem, 1)] (S' := (33, [(0, .inr (.inr (some (4, 0)))), (1, .inl x1), (2, .inl x2), (3, .inl (((cg M 4 0 1) - (1 : Int32)) - x2))], [.inl (zrem (x1 / (zsv 2 (nx (((cg M 4 0 1) - (1 : Int32)) - x2)))) (6 : Int32))], zfC M)) (b := zin (((cg M 4 0 1) - (1 : Int32)) - x2) 5 && (znz (zsv 2 (nx (((cg M 4 0 1) - (1 : Int32)) - x2))) && (znz (6 : Int32) && true))) (by decide +kernel) rfl hg1 ?_
      cases h
      exact zret_i Hy.1 Hy.2.2 hE (by decide +kernel)
    · replace h := zite_f h hb2
      refine zblq Hy.1 Hy.2.1 [(.iconst 0, 1)] (S' := (22, [(0, .inr (.inr (some (4, 0)))), (1, .inl x1), (2, .inl x2), (3, .inl (((cg M 4 0 1) - (1 : Int32)) - x2))], [.inl (0 : Int32)], zfC M)) (b := true) (by decide +kernel) rfl rfl ?_
      cases h
      exact zret_i Hy.1 Hy.2.2 hE (by decide +kernel)
theorem m4_spotIn_met {l : Launch} {G : zG} (hG : zGok G) (hcn : zgcn G = zcC) {x1 : Int32} {x2 : Int32} {M : cM} {r : Int32} {M' : cM} (h : m4_spotIn x1 x2 M = some (r, M')) : zMet l G yX4_spotIn cX4_spotIn 4 (some .int) 0 0 [.inr (.inr (some (4, 0))), .inl x1, .inl x2] (zfC M) (some (.inl r)) (zfC M') :=
  zMet_of hG tbX4_ok rfl (by decide +kernel) (Nat.le_of_ble_eq_true rfl) (fun X _ Z hA hE => m4_spotIn_ok ⟨Z, hcn, hA⟩ hE x1 x2 M h)
abbrev q4_spotOfCourse : ByteArray × Nat × String × zT := (cX4_spotOfCourse, 3, RX4, tbX4)
def m4_spotOfCourse (x1 : Int32) (x2 : Int32) (M : cM) : Option (Int32 × cM) := (if x1 < 0 then some ((-2 : Int32), M) else (if x1 < (7776 : Int32) then zgd (zin x1 7776 && true) (zbd (m4_spotIn (cg M 510 0 (nx x1)) x2 M) (fun r2 M2 => some (r2, M2))) else some ((-2 : Int32), M)))
theorem m4_spotOfCourse_ok {X : zX} {G : zG} (Hy : zHy X G q4_spotOfCourse zcC 1 23 (some .int)) {r : Int32} {M' : cM} (hE : zEnd X G (some (.inl r)) (zfC M')) (x1 : Int32) (x2 : Int32) (M : cM) (h : m4_spotOfCourse x1 x2 M = some (r, M')) : zGo (X, q4_spotOfCourse, G) 0 0 (0, [(0, .inr (.inr (some (4, 0)))), (1, .inl x1), (2, .inl x2)], [], zfC M) := by
  unfold m4_spotOfCourse at h
  refine zblq Hy.1 Hy.2.1 [(.iload 1, 1)] (S' := (1, [(0, .inr (.inr (some (4, 0)))), (1, .inl x1), (2, .inl x2)], [.inl x1], zfC M)) (b := true) (by decide +kernel) rfl rfl ?_
  refine zif_lt Hy.1 (off := 10) (tgt := 11) (by decide +kernel) (by decide) (fun hb4 => ?_) (fun hb4 => ?_)
  · replace h := zite_t h hb4
    refine zblq Hy.1 Hy.2.1 [(.iconst (-2), 2)] (S' := (13, [(0, .inr (.inr (some (4, 0)))), (1, .inl x1), (2, .inl x2)], [.inl (-2 : Int32)], zfC M)) (b := true) (by decide +kernel) rfl rfl ?_
    cases h
    exact zret_i Hy.1 Hy.2.2 hE (by decide +kernel)
  · replace h := zite_f h hb4
    refine zblq Hy.1 Hy.2.1 [(.iload 1, 1), (.iconst 7776, 3)] (S' := (8, [(0, .inr (.inr (some (4, 0)))), (1, .inl x1), (2, .inl x2)], [.inl (7776 : Int32), .inl x1], zfC M)) (b := true) (by decide +kernel) rfl rfl ?_
    refine zic_lt Hy.1 (off := 6) (tgt := 14) (by decide +kernel) (by decide) (fun hb3 => ?_) (fun hb3 => ?_)
    · replace h := zite_t h hb3
      obtain ⟨hg1, h⟩ := zgd_inv h
      refine zblq Hy.1 Hy.2.1 [(.aload 0, 1), (.aload 0, 1), (.getfield 410, 3), (.iload 1, 1), (.iaload, 1), (.iload 2, 1)] (S' := (22, [(0, .inr (.inr (some (4, 0)))), (1, .inl x1), (2, .inl x2)], [.inl x2, .inl (cg M 510 0 (nx x1)), .inr (.inr (some (4, 0)))], zfC M)) (b := zin x1 7776 && true) (by decide +kernel) rfl hg1 ?_
      obtain ⟨r2, M2, hc2, h⟩ := zbd_inv h
      refine zcallV Hy.1 (as := [.inl (cg M 510 0 (nx x1)), .inl x2]) (st := []) (m4_spotIn_met (zOK_G Hy.1) Hy.2.1 hc2) cw4_105 m4_spotIn_in m4_spotIn_se (by decide) (zhlv Hy.2.1 rfl) rfl (zroom Hy.2.2 ⟨by decide, by decide⟩) rfl (by decide +kernel) ⟨Nat.zero_le _, Nat.zero_le _⟩ ?_
      cases h
      exact zret_i Hy.1 Hy.2.2 hE (by decide +kernel)
    · replace h := zite_f h hb3
      refine zblq Hy.1 Hy.2.1 [(.iconst (-2), 2)] (S' := (13, [(0, .inr (.inr (some (4, 0)))), (1, .inl x1), (2, .inl x2)], [.inl (-2 : Int32)], zfC M)) (b := true) (by decide +kernel) rfl rfl ?_
      cases h
      exact zret_i Hy.1 Hy.2.2 hE (by decide +kernel)
theorem m4_spotOfCourse_met {l : Launch} {G : zG} (hG : zGok G) (hcn : zgcn G = zcC) {x1 : Int32} {x2 : Int32} {M : cM} {r : Int32} {M' : cM} (h : m4_spotOfCourse x1 x2 M = some (r, M')) : zMet l G yX4_spotOfCourse cX4_spotOfCourse 3 (some .int) 1 23 [.inr (.inr (some (4, 0))), .inl x1, .inl x2] (zfC M) (some (.inl r)) (zfC M') :=
  zMet_of hG tbX4_ok rfl (by decide +kernel) (Nat.le_of_ble_eq_true rfl) (fun X _ Z hA hE => m4_spotOfCourse_ok ⟨Z, hcn, hA⟩ hE x1 x2 M h)
abbrev q11_course : ByteArray × Nat × String × zT := (cX11_course, 3, RX11, tbX11)
def m11_course (x1 : Int32) (x2 : Int32) (M : cM) : Option (Int32 × cM) := zbd (m4_hasTick x2 M) (fun r1 M1 => (if r1 = 0 then some ((-2 : Int32), M1) else (if x1 < 0 then some ((-2 : Int32), M1) else zbd (m4_listCourses M1) (fun r2 M2 => (if x1 < r2 then zbd (m4_spotOfCourse x1 x2 M2) (fun r3 M3 => some (r3, M3)) else some ((-2 : Int32), M2))))))
theorem m11_course_ok {X : zX} {G : zG} (Hy : zHy X G q11_course zcC 5 116 (some .int)) {r : Int32} {M' : cM} (hE : zEnd X G (some (.inl r)) (zfC M')) (x1 : Int32) (x2 : Int32) (M : cM) (h : m11_course x1 x2 M = some (r, M')) : zGo (X, q11_course, G) 0 0 (0, [(0, .inr (.inr (some (11, 0)))), (1, .inl x1), (2, .inl x2)], [], zfC M) := by
  unfold m11_course at h
  refine zblq Hy.1 Hy.2.1 [(.aload 0, 1), (.getfield 1106, 3), (.iload 2, 1)] (S' := (5, [(0, .inr (.inr (some (11, 0)))), (1, .inl x1), (2, .inl x2)], [.inl x2, .inr (.inr (some (4, 0)))], zfC M)) (b := true) (by decide +kernel) rfl rfl ?_
  obtain ⟨r1, M1, hc1, h⟩ := zbd_inv h
  refine zcallV Hy.1 (as := [.inl x2]) (st := []) (m4_hasTick_met (zOK_G Hy.1) Hy.2.1 hc1) cw11_312 m4_hasTick_in m4_hasTick_se (by decide) (zhlv Hy.2.1 rfl) rfl (zroom Hy.2.2 ⟨by decide, by decide⟩) rfl (by decide +kernel) ⟨Nat.zero_le _, Nat.zero_le _⟩ ?_
  refine zif_eq Hy.1 (off := 18) (tgt := 26) (by decide +kernel) (by decide) (fun hb6 => ?_) (fun hb6 => ?_)
  · replace h := zite_t h hb6
    refine zblq Hy.1 Hy.2.1 [(.iconst (-2), 2)] (S' := (28, [(0, .inr (.inr (some (11, 0)))), (1, .inl x1), (2, .inl x2)], [.inl (-2 : Int32)], zfC M1)) (b := true) (by decide +kernel) rfl rfl ?_
    cases h
    exact zret_i Hy.1 Hy.2.2 hE (by decide +kernel)
  · replace h := zite_f h hb6
    refine zblq Hy.1 Hy.2.1 [(.iload 1, 1)] (S' := (12, [(0, .inr (.inr (some (11, 0)))), (1, .inl x1), (2, .inl x2)], [.inl x1], zfC M1)) (b := true) (by decide +kernel) rfl rfl ?_
    refine zif_lt Hy.1 (off := 14) (tgt := 26) (by decide +kernel) (by decide) (fun hb5 => ?_) (fun hb5 => ?_)
    · replace h := zite_t h hb5
      refine zblq Hy.1 Hy.2.1 [(.iconst (-2), 2)] (S' := (28, [(0, .inr (.inr (some (11, 0)))), (1, .inl x1), (2, .inl x2)], [.inl (-2 : Int32)], zfC M1)) (b := true) (by decide +kernel) rfl rfl ?_
      cases h
      exact zret_i Hy.1 Hy.2.2 hE (by decide +kernel)
    · replace h := zite_f h hb5
      refine zblq Hy.1 Hy.2.1 [(.iload 1, 1), (.aload 0, 1), (.getfield 1106, 3)] (S' := (20, [(0, .inr (.inr (some (11, 0)))), (1, .inl x1), (2, .inl x2)], [.inr (.inr (some (4, 0))), .inl x1], zfC M1)) (b := true) (by decide +kernel) rfl rfl ?_
      obtain ⟨r2, M2, hc2, h⟩ := zbd_inv h
      refine zcallV Hy.1 (as := []) (st := [.inl x1]) (m4_listCourses_met (zOK_G Hy.1) Hy.2.1 hc2) cw11_322 m4_listCourses_in m4_listCourses_se (by decide) (zhlv Hy.2.1 rfl) rfl (zroom Hy.2.2 ⟨by decide, by decide⟩) rfl (by decide +kernel) ⟨Nat.zero_le _, Nat.zero_le _⟩ ?_
      refine zic_lt Hy.1 (off := 6) (tgt := 29) (by decide +kernel) (by decide) (fun hb4 => ?_) (fun hb4 => ?_)
      · replace h := zite_t h hb4
        refine zblq Hy.1 Hy.2.1 [(.aload 0, 1), (.getfield 1106, 3), (.iload 1, 1), (.iload 2, 1)] (S' := (35, [(0, .inr (.inr (some (11, 0)))), (1, .inl x1), (2, .inl x2)], [.inl x2, .inl x1, .inr (.inr (some (4, 0)))], zfC M2)) (b := true) (by decide +kernel) rfl rfl ?_
        obtain ⟨r3, M3, hc3, h⟩ := zbd_inv h
        refine zcallV Hy.1 (as := [.inl x1, .inl x2]) (st := []) (m4_spotOfCourse_met (zOK_G Hy.1) Hy.2.1 hc3) cw11_325 m4_spotOfCourse_in m4_spotOfCourse_se (by decide) (zhlv Hy.2.1 rfl) rfl (zroom Hy.2.2 ⟨by decide, by decide⟩) rfl (by decide +kernel) ⟨Nat.zero_le _, Nat.zero_le _⟩ ?_
        cases h
        exact zret_i Hy.1 Hy.2.2 hE (by decide +kernel)
      · replace h := zite_f h hb4
        refine zblq Hy.1 Hy.2.1 [(.iconst (-2), 2)] (S' := (28, [(0, .inr (.inr (some (11, 0)))), (1, .inl x1), (2, .inl x2)], [.inl (-2 : Int32)], zfC M2)) (b := true) (by decide +kernel) rfl rfl ?_
        cases h
        exact zret_i Hy.1 Hy.2.2 hE (by decide +kernel)
theorem m11_course_met {l : Launch} {G : zG} (hG : zGok G) (hcn : zgcn G = zcC) {x1 : Int32} {x2 : Int32} {M : cM} {r : Int32} {M' : cM} (h : m11_course x1 x2 M = some (r, M')) : zMet l G yX11_course cX11_course 3 (some .int) 5 116 [.inr (.inr (some (11, 0))), .inl x1, .inl x2] (zfC M) (some (.inl r)) (zfC M') :=
  zMet_of hG tbX11_ok rfl (by decide +kernel) (Nat.le_of_ble_eq_true rfl) (fun X _ Z hA hE => m11_course_ok ⟨Z, hcn, hA⟩ hE x1 x2 M h)
