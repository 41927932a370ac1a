abbrev q1_addFact : ByteArray × Nat × String × zT := (cX1_addFact, 6, RX1, tbX1)
def m1_addFact_53 (x5 : Int32) (M : cM) : Option (Int32 × cM) := zgd (zin (cg M 1 0 6) 20 && true) (some (cg (cs (cs M 205 0 (nx (cg M 1 0 6)) x5) 1 0 6 ((cg (cs M 205 0 (nx (cg M 1 0 6)) x5) 1 0 6) + (1 : Int32))) 1 0 6, cs (cs M 205 0 (nx (cg M 1 0 6)) x5) 1 0 6 ((cg (cs M 205 0 (nx (cg M 1 0 6)) x5) 1 0 6) + (1 : Int32))))
theorem m1_addFact_53_ok {X : zX} {G : zG} (Hy : zHy X G q1_addFact zcC 0 0 (some .int)) {r : Int32} {M' : cM} (hE : zEnd X G (some (.inl r)) (zfC M')) (x5 : Int32) (M : cM) (h : m1_addFact_53 x5 M = some (r, M')) : zGo (X, q1_addFact, G) 0 0 (53, [(0, .inr (.inr (some (1, 0)))), (5, .inl x5)], [], zfC M) := by
  unfold m1_addFact_53 at h
  obtain ⟨hg2, h⟩ := zgd_inv h
  refine zblq Hy.1 Hy.2.1 [(.aload 0, 1), (.getfield 105, 3), (.aload 0, 1), (.multianewarray 1 6, 3), (.iload 5, 2), (.iastore, 1), (.aload 0, 1), (.dup, 1), (.multianewarray 1 6, 3), (.iconst 1, 1), (.iadd, 1), (.invokeinterface 1 6, 3), (.aload 0, 1), (.multianewarray 1 6, 3)] (S' := (78, [(0, .inr (.inr (some (1, 0)))), (5, .inl x5)], [.inl (cg (cs (cs M 205 0 (nx (cg M 1 0 6)) x5) 1 0 6 ((cg (cs M 205 0 (nx (cg M 1 0 6)) x5) 1 0 6) + (1 : Int32))) 1 0 6)], zfC (cs (cs M 205 0 (nx (cg M 1 0 6)) x5) 1 0 6 ((cg (cs M 205 0 (nx (cg M 1 0 6)) x5) 1 0 6) + (1 : Int32))))) (b := zin (cg M 1 0 6) 20 && true) (by decide +kernel) rfl hg2 ?_
  cases h
  exact zret_i Hy.1 Hy.2.2 hE (by decide +kernel)
def m1_addFact (x1 : Int32) (x2 : Int32) (x3 : Int32) (x4 : Int32) (x5 : Int32) (M : cM) : Option (Int32 × cM) := (if (cg M 1 0 6) < (20 : Int32) then zgd (zin (cg M 1 0 6) 20 && (zin (cg (cs M 201 0 (nx (cg M 1 0 6)) x1) 1 0 6) 20 && (zin (cg (cs (cs M 201 0 (nx (cg M 1 0 6)) x1) 202 0 (nx (cg (cs M 201 0 (nx (cg M 1 0 6)) x1) 1 0 6)) x2) 1 0 6) 20 && (zin (cg (cs (cs (cs M 201 0 (nx (cg M 1 0 6)) x1) 202 0 (nx (cg (cs M 201 0 (nx (cg M 1 0 6)) x1) 1 0 6)) x2) 203 0 (nx (cg (cs (cs M 201 0 (nx (cg M 1 0 6)) x1) 202 0 (nx (cg (cs M 201 0 (nx (cg M 1 0 6)) x1) 1 0 6)) x2) 1 0 6)) x3) 1 0 6) 20 && true)))) (m1_addFact_53 x5 (cs (cs (cs (cs M 201 0 (nx (cg M 1 0 6)) x1) 202 0 (nx (cg (cs M 201 0 (nx (cg M 1 0 6)) x1) 1 0 6)) x2) 203 0 (nx (cg (cs (cs M 201 0 (nx (cg M 1 0 6)) x1) 202 0 (nx (cg (cs M 201 0 (nx (cg M 1 0 6)) x1) 1 0 6)) x2) 1 0 6)) x3) 204 0 (nx (cg (cs (cs (cs M 201 0 (nx (cg M 1 0 6)) x1) 202 0 (nx (cg (cs M 201 0 (nx (cg M 1 0 6)) x1) 1 0 6)) x2) 203 0 (nx (cg (cs (cs M 201 0 (nx (cg M 1 0 6)) x1) 202 0 (nx (cg (cs M 201 0 (nx (cg M 1 0 6)) x1) 1 0 6)) x2) 1 0 6)) x3) 1 0 6)) x4)) else some ((-5 : Int32), M))
theorem m1_addFact_ok {X : zX} {G : zG} (Hy : zHy X G q1_addFact zcC 0 0 (some .int)) {r : Int32} {M' : cM} (hE : zEnd X G (some (.inl r)) (zfC M')) (x1 : Int32) (x2 : Int32) (x3 : Int32) (x4 : Int32) (x5 : Int32) (M : cM) (h : m1_addFact x1 x2 x3 x4 x5 M = some (r, M')) : zGo (X, q1_addFact, G) 0 0 (0, [(0, .inr (.inr (some (1, 0)))), (1, .inl x1), (2, .inl x2), (3, .inl x3), (4, .inl x4), (5, .inl x5)], [], zfC M) := by
  unfold m1_addFact at h
  refine zblq Hy.1 Hy.2.1 [(.aload 0, 1), (.multianewarray 1 6, 3), (.iconst 20, 2)] (S' := (6, [(0, .inr (.inr (some (1, 0)))), (1, .inl x1), (2, .inl x2), (3, .inl x3), (4, .inl x4), (5, .inl x5)], [.inl (20 : Int32), .inl (cg M 1 0 6)], zfC M)) (b := true) (by decide +kernel) rfl rfl ?_
  refine zic_lt Hy.1 (off := 6) (tgt := 12) (by decide +kernel) (by decide) (fun hb3 => ?_) (fun hb3 => ?_)
  · replace h := zite_t h hb3
    obtain ⟨hg1, h⟩ := zgd_inv h
    refine zblq Hy.1 Hy.2.1 [(.aload 0, 1), (.getfield 101, 3), (.aload 0, 1), (.multianewarray 1 6, 3), (.iload 1, 1), (.iastore, 1), (.aload 0, 1), (.getfield 102, 3), (.aload 0, 1), (.multianewarray 1 6, 3), (.iload 2, 1), (.iastore, 1), (.aload 0, 1), (.getfield 103, 3), (.aload 0, 1), (.multianewarray 1 6, 3), (.iload 3, 1), (.iastore, 1), (.aload 0, 1), (.getfield 104, 3), (.aload 0, 1), (.multianewarray 1 6, 3), (.iload 4, 2), (.iastore, 1)] (S' := (53, [(0, .inr (.inr (some (1, 0)))), (1, .inl x1), (2, .inl x2), (3, .inl x3), (4, .inl x4), (5, .inl x5)], [], zfC (cs (cs (cs (cs M 201 0 (nx (cg M 1 0 6)) x1) 202 0 (nx (cg (cs M 201 0 (nx (cg M 1 0 6)) x1) 1 0 6)) x2) 203 0 (nx (cg (cs (cs M 201 0 (nx (cg M 1 0 6)) x1) 202 0 (nx (cg (cs M 201 0 (nx (cg M 1 0 6)) x1) 1 0 6)) x2) 1 0 6)) x3) 204 0 (nx (cg (cs (cs (cs M 201 0 (nx (cg M 1 0 6)) x1) 202 0 (nx (cg (cs M 201 0 (nx (cg M 1 0 6)) x1) 1 0 6)) x2) 203 0 (nx (cg (cs (cs M 201 0 (nx (cg M 1 0 6)) x1) 202 0 (nx (cg (cs M 201 0 (nx (cg M 1 0 6)) x1) 1 0 6)) x2) 1 0 6)) x3) 1 0 6)) x4))) (b := zin (cg M 1 0 6) 20 && (zin (cg (cs M 201 0 (nx (cg M 1 0 6)) x1) 1 0 6) 20 && (zin (cg (cs (cs M 201 0 (nx (cg M 1 0 6)) x1) 202 0 (nx (cg (cs M 201 0 (nx (cg M 1 0 6)) x1) 1 0 6)) x2) 1 0 6) 20 && (zin (cg (cs (cs (cs M 201 0 (nx (cg M 1 0 6)) x1) 202 0 (nx (cg (cs M 201 0 (nx (cg M 1 0 6)) x1) 1 0 6)) x2) 203 0 (nx (cg (cs (cs M 201 0 (nx (cg M 1 0 6)) x1) 202 0 (nx (cg (cs M 201 0 (nx (cg M 1 0 6)) x1) 1 0 6)) x2) 1 0 6)) x3) 1 0 6) 20 && true)))) (by decide +kernel) rfl hg1 ?_
    refine zGo_keep [0, 5] rfl ?_
    exact m1_addFact_53_ok Hy hE x5 (cs (cs (cs (cs M 201 0 (nx (cg M 1 0 6)) x1) 202 0 (nx (cg (cs M 201 0 (nx (cg M 1 0 6)) x1) 1 0 6)) x2) 203 0 (nx (cg (cs (cs M 201 0 (nx (cg M 1 0 6)) x1) 202 0 (nx (cg (cs M 201 0 (nx (cg M 1 0 6)) x1) 1 0 6)) x2) 1 0 6)) x3) 204 0 (nx (cg (cs (cs (cs M 201 0 (nx (cg M 1 0 6)) x1) 202 0 (nx (cg (cs M 201 0 (nx (cg M 1 0 6)) x1) 1 0 6)) x2) 203 0 (nx (cg (cs (cs M 201 0 (nx (cg M 1 0 6)) x1) 202 0 (nx (cg (cs M 201 0 (nx (cg M 1 0 6)) x1) 1 0 6)) x2) 1 0 6)) x3) 1 0 6)) x4) h
  · replace h := zite_f h hb3
    refine zblq Hy.1 Hy.2.1 [(.iconst (-5), 2)] (S' := (11, [(0, .inr (.inr (some (1, 0)))), (1, .inl x1), (2, .inl x2), (3, .inl x3), (4, .inl x4), (5, .inl x5)], [.inl (-5 : Int32)], zfC M)) (b := true) (by decide +kernel) rfl rfl ?_
    cases h
    exact zret_i Hy.1 Hy.2.2 hE (by decide +kernel)
theorem m1_addFact_met {l : Launch} {G : zG} (hG : zGok G) (hcn : zgcn G = zcC) {x1 : Int32} {x2 : Int32} {x3 : Int32} {x4 : Int32} {x5 : Int32} {M : cM} {r : Int32} {M' : cM} (h : m1_addFact x1 x2 x3 x4 x5 M = some (r, M')) : zMet l G yX1_addFact cX1_addFact 6 (some .int) 0 0 [.inr (.inr (some (1, 0))), .inl x1, .inl x2, .inl x3, .inl x4, .inl x5] (zfC M) (some (.inl r)) (zfC M') :=
  zMet_of hG tbX1_ok rfl (by decide +kernel) (Nat.le_of_ble_eq_true rfl) (fun X _ Z hA hE => m1_addFact_ok ⟨Z, hcn, hA⟩ hE x1 x2 x3 x4 x5 M h)
abbrev q11_fact : ByteArray × Nat × String × zT := (cX11_fact, 6, RX11, tbX11)
def m11_fact (x1 : Int32) (x2 : Int32) (x3 : Int32) (x4 : Int32) (x5 : Int32) (M : cM) : Option (Int32 × cM) := zbd (m3_knows x1 M) (fun r1 M1 => (if r1 = 0 then some ((-2 : Int32), M1) else zbd (m3_knows x2 M1) (fun r2 M2 => (if r2 = 0 then some ((-2 : Int32), M2) else zbd (m3_knows x3 M2) (fun r3 M3 => (if r3 = 0 then some ((-2 : Int32), M3) else (if x2 = x3 then some ((-2 : Int32), M3) else zbd (m11_outside x4 (-999 : Int32) (999 : Int32) M3) (fun r4 M4 => (if r4 = 0 then zbd (m11_outside x5 (-999 : Int32) (999 : Int32) M4) (fun r5 M5 => (if r5 = 0 then (if x4 ≤ x5 then zbd (m1_addFact x1 x2 x3 x4 x5 M5) (fun r6 M6 => some (r6, M6)) else some ((-3 : Int32), M5)) else some ((-3 : Int32), M5))) else some ((-3 : Int32), M4))))))))))
theorem m11_fact_ok {X : zX} {G : zG} (Hy : zHy X G q11_fact zcC 1 25 (some .int)) {r : Int32} {M' : cM} (hE : zEnd X G (some (.inl r)) (zfC M')) (x1 : Int32) (x2 : Int32) (x3 : Int32) (x4 : Int32) (x5 : Int32) (M : cM) (h : m11_fact x1 x2 x3 x4 x5 M = some (r, M')) : zGo (X, q11_fact, G) 0 0 (0, [(0, .inr (.inr (some (11, 0)))), (1, .inl x1), (2, .inl x2), (3, .inl x3), (4, .inl x4), (5, .inl x5)], [], zfC M) := by
  unfold m11_fact at h
  refine zblq Hy.1 Hy.2.1 [(.aload 0, 1), (.getfield 1100, 3), (.iload 1, 1)] (S' := (5, [(0, .inr (.inr (some (11, 0)))), (1, .inl x1), (2, .inl x2), (3, .inl x3), (4, .inl x4), (5, .inl x5)], [.inl x1, .inr (.inr (some (3, 0)))], zfC M)) (b := true) (by decide +kernel) rfl rfl ?_
  obtain ⟨r1, M1, hc1, h⟩ := zbd_inv h
  refine zcallV Hy.1 (as := [.inl x1]) (st := []) (m3_knows_met (zOK_G Hy.1) Hy.2.1 hc1) cw11_74 m3_knows_in m3_knows_se (by decide) (zhlv Hy.2.1 rfl) rfl (zroom Hy.2.2 ⟨by decide, by decide⟩) rfl (by decide +kernel) ⟨Nat.zero_le _, Nat.zero_le _⟩ ?_
  refine zif_eq Hy.1 (off := 30) (tgt := 38) (by decide +kernel) (by decide) (fun hb13 => ?_) (fun hb13 => ?_)
  · replace h := zite_t h hb13
    refine zblq Hy.1 Hy.2.1 [(.iconst (-2), 2)] (S' := (40, [(0, .inr (.inr (some (11, 0)))), (1, .inl x1), (2, .inl x2), (3, .inl x3), (4, .inl x4), (5, .inl x5)], [.inl (-2 : Int32)], zfC M1)) (b := true) (by decide +kernel) rfl rfl ?_
    cases h
    exact zret_i Hy.1 Hy.2.2 hE (by decide +kernel)
  · replace h := zite_f h hb13
    refine zblq Hy.1 Hy.2.1 [(.aload 0, 1), (.getfield 1100, 3), (.iload 2, 1)] (S' := (16, [(0, .inr (.inr (some (11, 0)))), (1, .inl x1), (2, .inl x2), (3, .inl x3), (4, .inl x4), (5, .inl x5)], [.inl x2, .inr (.inr (some (3, 0)))], zfC M1)) (b := true) (by decide +kernel) rfl rfl ?_
    obtain ⟨r2, M2, hc2, h⟩ := zbd_inv h
    refine zcallV Hy.1 (as := [.inl x2]) (st := []) (m3_knows_met (zOK_G Hy.1) Hy.2.1 hc2) cw11_74 m3_knows_in m3_knows_se (by decide) (zhlv Hy.2.1 rfl) rfl (zroom Hy.2.2 ⟨by decide, by decide⟩) rfl (by decide +kernel) ⟨Nat.zero_le _, Nat.zero_le _⟩ ?_
    refine zif_eq Hy.1 (off := 19) (tgt := 38) (by decide +kernel) (by decide) (fun hb12 => ?_) (fun hb12 => ?_)
    · replace h := zite_t h hb12
      refine zblq Hy.1 Hy.2.1 [(.iconst (-2), 2)] (S' := (40, [(0, .inr (.inr (some (11, 0)))), (1, .inl x1), (2, .inl x2), (3, .inl x3), (4, .inl x4), (5, .inl x5)], [.inl (-2 : Int32)], zfC M2)) (b := true) (by decide +kernel) rfl rfl ?_
      cases h
      exact zret_i Hy.1 Hy.2.2 hE (by decide +kernel)
    · replace h := zite_f h hb12
      refine zblq Hy.1 Hy.2.1 [(.aload 0, 1), (.getfield 1100, 3), (.iload 3, 1)] (S' := (27, [(0, .inr (.inr (some (11, 0)))), (1, .inl x1), (2, .inl x2), (3, .inl x3), (4, .inl x4), (5, .inl x5)], [.inl x3, .inr (.inr (some (3, 0)))], zfC M2)) (b := true) (by decide +kernel) rfl rfl ?_
      obtain ⟨r3, M3, hc3, h⟩ := zbd_inv h
      refine zcallV Hy.1 (as := [.inl x3]) (st := []) (m3_knows_met (zOK_G Hy.1) Hy.2.1 hc3) cw11_74 m3_knows_in m3_knows_se (by decide) (zhlv Hy.2.1 rfl) rfl (zroom Hy.2.2 ⟨by decide, by decide⟩) rfl (by decide +kernel) ⟨Nat.zero_le _, Nat.zero_le _⟩ ?_
      refine zif_eq Hy.1 (off := 8) (tgt := 38) (by decide +kernel) (by decide) (fun hb11 => ?_) (fun hb11 => ?_)
      · replace h := zite_t h hb11
        refine zblq Hy.1 Hy.2.1 [(.iconst (-2), 2)] (S' := (40, [(0, .inr (.inr (some (11, 0)))), (1, .inl x1), (2, .inl x2), (3, .inl x3), (4, .inl x4), (5, .inl x5)], [.inl (-2 : Int32)], zfC M3)) (b := true) (by decide +kernel) rfl rfl ?_
        cases h
        exact zret_i Hy.1 Hy.2.2 hE (by decide +kernel)
      · replace h := zite_f h hb11
        refine zblq Hy.1 Hy.2.1 [(.iload 2, 1), (.iload 3, 1)] (S' := (35, [(0, .inr (.inr (some (11, 0)))), (1, .inl x1), (2, .inl x2), (3, .inl x3), (4, .inl x4), (5, .inl x5)], [.inl x3, .inl x2], zfC M3)) (b := true) (by decide +kernel) rfl rfl ?_
        refine zic_ne Hy.1 (off := 6) (tgt := 41) (by decide +kernel) (by decide) (fun hb10 => ?_) (fun hb10 => ?_)
        · replace h := zite_f h hb10
          refine zblq Hy.1 Hy.2.1 [(.iload 4, 2), (.iconst (-999), 3), (.iconst 999, 3)] (S' := (49, [(0, .inr (.inr (some (11, 0)))), (1, .inl x1), (2, .inl x2), (3, .inl x3), (4, .inl x4), (5, .inl x5)], [.inl (999 : Int32), .inl (-999 : Int32), .inl x4], zfC M3)) (b := true) (by decide +kernel) rfl rfl ?_
          obtain ⟨r4, M4, hc4, h⟩ := zbd_inv h
          refine zcallS Hy.1 (as := [.inl x4, .inl (-999 : Int32), .inl (999 : Int32)]) (st := []) (m11_outside_met (zOK_G Hy.1) Hy.2.1 hc4) cw11_66 m11_outside_in rfl (zroom Hy.2.2 ⟨by decide, by decide⟩) rfl (by decide +kernel) ⟨Nat.zero_le _, Nat.zero_le _⟩ ?_
          refine zif_ne Hy.1 (off := 24) (tgt := 76) (by decide +kernel) (by decide) (fun hb9 => ?_) (fun hb9 => ?_)
          · replace h := zite_f h hb9
            refine zblq Hy.1 Hy.2.1 [(.iconst (-3), 2)] (S' := (78, [(0, .inr (.inr (some (11, 0)))), (1, .inl x1), (2, .inl x2), (3, .inl x3), (4, .inl x4), (5, .inl x5)], [.inl (-3 : Int32)], zfC M4)) (b := true) (by decide +kernel) rfl rfl ?_
            cases h
            exact zret_i Hy.1 Hy.2.2 hE (by decide +kernel)
          · replace h := zite_t h hb9
            refine zblq Hy.1 Hy.2.1 [(.iload 5, 2), (.iconst (-999), 3), (.iconst 999, 3)] (S' := (63, [(0, .inr (.inr (some (11, 0)))), (1, .inl x1), (2, .inl x2), (3, .inl x3), (4, .inl x4), (5, .inl x5)], [.inl (999 : Int32), .inl (-999 : Int32), .inl x5], zfC M4)) (b := true) (by decide +kernel) rfl rfl ?_
            obtain ⟨r5, M5, hc5, h⟩ := zbd_inv h
            refine zcallS Hy.1 (as := [.inl x5, .inl (-999 : Int32), .inl (999 : Int32)]) (st := []) (m11_outside_met (zOK_G Hy.1) Hy.2.1 hc5) cw11_66 m11_outside_in rfl (zroom Hy.2.2 ⟨by decide, by decide⟩) rfl (by decide +kernel) ⟨Nat.zero_le _, Nat.zero_le _⟩ ?_
            refine zif_ne Hy.1 (off := 10) (tgt := 76) (by decide +kernel) (by decide) (fun hb8 => ?_) (fun hb8 => ?_)
            · replace h := zite_f h hb8
              refine zblq Hy.1 Hy.2.1 [(.iconst (-3), 2)] (S' := (78, [(0, .inr (.inr (some (11, 0)))), (1, .inl x1), (2, .inl x2), (3, .inl x3), (4, .inl x4), (5, .inl x5)], [.inl (-3 : Int32)], zfC M5)) (b := true) (by decide +kernel) rfl rfl ?_
              cases h
              exact zret_i Hy.1 Hy.2.2 hE (by decide +kernel)
            · replace h := zite_t h hb8
              refine zblq Hy.1 Hy.2.1 [(.iload 4, 2), (.iload 5, 2)] (S' := (73, [(0, .inr (.inr (some (11, 0)))), (1, .inl x1), (2, .inl x2), (3, .inl x3), (4, .inl x4), (5, .inl x5)], [.inl x5, .inl x4], zfC M5)) (b := true) (by decide +kernel) rfl rfl ?_
              refine zic_le Hy.1 (off := 6) (tgt := 79) (by decide +kernel) (by decide) (fun hb7 => ?_) (fun hb7 => ?_)
              · replace h := zite_t h hb7
                refine zblq Hy.1 Hy.2.1 [(.aload 0, 1), (.getfield 1104, 3), (.iload 1, 1), (.iload 2, 1), (.iload 3, 1), (.iload 4, 2), (.iload 5, 2)] (S' := (90, [(0, .inr (.inr (some (11, 0)))), (1, .inl x1), (2, .inl x2), (3, .inl x3), (4, .inl x4), (5, .inl x5)], [.inl x5, .inl x4, .inl x3, .inl x2, .inl x1, .inr (.inr (some (1, 0)))], zfC M5)) (b := true) (by decide +kernel) rfl rfl ?_
                obtain ⟨r6, M6, hc6, h⟩ := zbd_inv h
                refine zcallV Hy.1 (as := [.inl x1, .inl x2, .inl x3, .inl x4, .inl x5]) (st := []) (m1_addFact_met (zOK_G Hy.1) Hy.2.1 hc6) cw11_239 m1_addFact_in m1_addFact_se (by decide) (zhlv Hy.2.1 rfl) rfl (zroom Hy.2.2 ⟨by decide, by decide⟩) rfl (by decide +kernel) ⟨Nat.zero_le _, Nat.zero_le _⟩ ?_
                cases h
                exact zret_i Hy.1 Hy.2.2 hE (by decide +kernel)
              · replace h := zite_f h hb7
                refine zblq Hy.1 Hy.2.1 [(.iconst (-3), 2)] (S' := (78, [(0, .inr (.inr (some (11, 0)))), (1, .inl x1), (2, .inl x2), (3, .inl x3), (4, .inl x4), (5, .inl x5)], [.inl (-3 : Int32)], zfC M5)) (b := true) (by decide +kernel) rfl rfl ?_
                cases h
                exact zret_i Hy.1 Hy.2.2 hE (by decide +kernel)
        · replace h := zite_t h hb10
          refine zblq Hy.1 Hy.2.1 [(.iconst (-2), 2)] (S' := (40, [(0, .inr (.inr (some (11, 0)))), (1, .inl x1), (2, .inl x2), (3, .inl x3), (4, .inl x4), (5, .inl x5)], [.inl (-2 : Int32)], zfC M3)) (b := true) (by decide +kernel) rfl rfl ?_
          cases h
          exact zret_i Hy.1 Hy.2.2 hE (by decide +kernel)
theorem m11_fact_met {l : Launch} {G : zG} (hG : zGok G) (hcn : zgcn G = zcC) {x1 : Int32} {x2 : Int32} {x3 : Int32} {x4 : Int32} {x5 : Int32} {M : cM} {r : Int32} {M' : cM} (h : m11_fact x1 x2 x3 x4 x5 M = some (r, M')) : zMet l G yX11_fact cX11_fact 6 (some .int) 1 25 [.inr (.inr (some (11, 0))), .inl x1, .inl x2, .inl x3, .inl x4, .inl x5] (zfC M) (some (.inl r)) (zfC M') :=
  zMet_of hG tbX11_ok rfl (by decide +kernel) (Nat.le_of_ble_eq_true rfl) (fun X _ Z hA hE => m11_fact_ok ⟨Z, hcn, hA⟩ hE x1 x2 x3 x4 x5 M h)
abbrev q1_allTellers : ByteArray × Nat × String × zT := (cX1_allTellers, 3, RX1, tbX1)
def m1_allTellers_4 : Nat → Int32 → Int32 → cM → Option (Int32 × cM)
  | 0, _, _, _ => none
  | n + 1, x1, x2, M => (if (cg M 1 0 6) ≤ x2 then some (x1, M) else (if (20 : Int32) ≤ x2 then some (x1, M) else zgd (zin x2 20 && true) ((m1_allTellers_4 n) (x1 ||| (zshl (1 : Int32) (cg M 201 0 (nx x2)))) (x2 + (1 : Int32)) M)))
theorem m1_allTellers_4_ok {X : zX} {G : zG} (Hy : zHy X G q1_allTellers zcC 0 0 (some .int)) {r : Int32} {M' : cM} (hE : zEnd X G (some (.inl r)) (zfC M')) : ∀ (n : Nat) (x1 : Int32) (x2 : Int32) (M : cM), m1_allTellers_4 n x1 x2 M = some (r, M') → zGo (X, q1_allTellers, G) 0 0 (4, [(0, .inr (.inr (some (1, 0)))), (1, .inl x1), (2, .inl x2)], [], zfC M) := by
  intro n
  induction n with
  | zero => intro x1 x2 M h; cases h
  | succ n ih =>
    intro x1 x2 M h
    unfold m1_allTellers_4 at h
    refine zblq Hy.1 Hy.2.1 [(.iload 2, 1), (.aload 0, 1), (.multianewarray 1 6, 3)] (S' := (9, [(0, .inr (.inr (some (1, 0)))), (1, .inl x1), (2, .inl x2)], [.inl (cg M 1 0 6), .inl x2], zfC M)) (b := true) (by decide +kernel) rfl rfl ?_
    refine zic_ge Hy.1 (off := 26) (tgt := 35) (by decide +kernel) (by decide) (fun hb3 => ?_) (fun hb3 => ?_)
    · replace h := zite_t h hb3
      refine zblq Hy.1 Hy.2.1 [(.iload 1, 1)] (S' := (36, [(0, .inr (.inr (some (1, 0)))), (1, .inl x1), (2, .inl x2)], [.inl x1], zfC M)) (b := true) (by decide +kernel) rfl rfl ?_
      cases h
      exact zret_i Hy.1 Hy.2.2 hE (by decide +kernel)
    · replace h := zite_f h hb3
      refine zblq Hy.1 Hy.2.1 [(.iload 2, 1), (.iconst 20, 2)] (S' := (15, [(0, .inr (.inr (some (1, 0)))), (1, .inl x1), (2, .inl x2)], [.inl (20 : Int32), .inl x2], zfC M)) (b := true) (by decide +kernel) rfl rfl ?_
      refine zic_ge Hy.1 (off := 20) (tgt := 35) (by decide +kernel) (by decide) (fun hb2 => ?_) (fun hb2 => ?_)
      · replace h := zite_t h hb2
        refine zblq Hy.1 Hy.2.1 [(.iload 1, 1)] (S' := (36, [(0, .inr (.inr (some (1, 0)))), (1, .inl x1), (2, .inl x2)], [.inl x1], zfC M)) (b := true) (by decide +kernel) rfl rfl ?_
        cases h
        exact zret_i Hy.1 Hy.2.2 hE (by decide +kernel)
      · replace h := zite_f h hb2
        obtain ⟨hg1, h⟩ := zgd_inv h
        refine zblq Hy.1 Hy.2.1 [(.iload 1, 1), (.iconst 1, 1), (.aload 0, 1), (.getfield 101, 3), (.iload 2, 1), (.iaload, 1), (.ishl, 1), (.ior, 1), (.istore 1, 1), (.iinc 2 1, 3), (.ldc 4, 3)] (S' := (4, [(0, .inr (.inr (some (1, 0)))), (1, .inl (x1 ||| (zshl (1 : Int32) (cg M 201 0 (nx x2))))), (2, .inl (x2 + (1 : Int32)))], [], zfC M)) (b := zin x2 20 && true) (by decide +kernel) rfl hg1 ?_
        refine zGo_keep [0, 1, 2] rfl ?_
        exact ih (x1 ||| (zshl (1 : Int32) (cg M 201 0 (nx x2)))) (x2 + (1 : Int32)) M h
def m1_allTellers  (M : cM) : Option (Int32 × cM) := m1_allTellers_4 zfu (0 : Int32) (0 : Int32) M
theorem m1_allTellers_ok {X : zX} {G : zG} (Hy : zHy X G q1_allTellers zcC 0 0 (some .int)) {r : Int32} {M' : cM} (hE : zEnd X G (some (.inl r)) (zfC M'))  (M : cM) (h : m1_allTellers M = some (r, M')) : zGo (X, q1_allTellers, G) 0 0 (0, [(0, .inr (.inr (some (1, 0))))], [], zfC M) := by
  unfold m1_allTellers at h
  refine zblq Hy.1 Hy.2.1 [(.iconst 0, 1), (.istore 1, 1), (.iconst 0, 1), (.istore 2, 1)] (S' := (4, [(0, .inr (.inr (some (1, 0)))), (1, .inl (0 : Int32)), (2, .inl (0 : Int32))], [], zfC M)) (b := true) (by decide +kernel) rfl rfl ?_
  refine zGo_keep [0, 1, 2] rfl ?_
  exact m1_allTellers_4_ok Hy hE zfu (0 : Int32) (0 : Int32) M h
theorem m1_allTellers_met {l : Launch} {G : zG} (hG : zGok G) (hcn : zgcn G = zcC)  {M : cM} {r : Int32} {M' : cM} (h : m1_allTellers M = some (r, M')) : zMet l G yX1_allTellers cX1_allTellers 3 (some .int) 0 0 [.inr (.inr (some (1, 0)))] (zfC M) (some (.inl r)) (zfC M') :=
  zMet_of hG tbX1_ok rfl (by decide +kernel) (Nat.le_of_ble_eq_true rfl) (fun X _ Z hA hE => m1_allTellers_ok ⟨Z, hcn, hA⟩ hE M h)
abbrev qJ7_fill_207 : ByteArray × Nat × String × zT := (cJ7_fill_53178, 4, RJ7, tbJ7)
def mJ7_fill_207_5 : Nat → Int32 → Int32 → Int32 → cM → Option cM
  | 0, _, _, _, _ => none
  | n + 1, x1, x2, x3, M => (if x3 ≤ x2 then some M else zgd (zin x2 100 && true) ((mJ7_fill_207_5 n) x1 (x2 + (1 : Int32)) x3 (cs M 207 0 (nx x2) x1)))
theorem mJ7_fill_207_5_ok {X : zX} {G : zG} (Hy : zHy X G qJ7_fill_207 zcC 0 0 (none)) {M' : cM} (hE : zEnd X G (none) (zfC M')) : ∀ (n : Nat) (x1 : Int32) (x2 : Int32) (x3 : Int32) (M : cM), mJ7_fill_207_5 n x1 x2 x3 M = some M' → zGo (X, qJ7_fill_207, G) 0 0 (5, [(0, .inr (.inr (some (207, 0)))), (1, .inl x1), (2, .inl x2), (3, .inl x3)], [], zfC M) := by
  intro n
  induction n with
  | zero => intro x1 x2 x3 M h; cases h
  | succ n ih =>
    intro x1 x2 x3 M h
    unfold mJ7_fill_207_5 at h
    refine zblq Hy.1 Hy.2.1 [(.iload 2, 1), (.iload 3, 1)] (S' := (7, [(0, .inr (.inr (some (207, 0)))), (1, .inl x1), (2, .inl x2), (3, .inl x3)], [.inl x3, .inl x2], zfC M)) (b := true) (by decide +kernel) rfl rfl ?_
    refine zic_ge Hy.1 (off := 13) (tgt := 20) (by decide +kernel) (by decide) (fun hb2 => ?_) (fun hb2 => ?_)
    · replace h := zite_t h hb2
      cases h
      exact zret_v Hy.1 Hy.2.2 hE (by decide +kernel)
    · replace h := zite_f h hb2
      obtain ⟨hg1, h⟩ := zgd_inv h
      refine zblq Hy.1 Hy.2.1 [(.aload 0, 1), (.iload 2, 1), (.iload 1, 1), (.iastore, 1), (.iinc 2 1, 3), (.ldc 5, 3)] (S' := (5, [(0, .inr (.inr (some (207, 0)))), (1, .inl x1), (2, .inl (x2 + (1 : Int32))), (3, .inl x3)], [], zfC (cs M 207 0 (nx x2) x1))) (b := zin x2 100 && true) (by decide +kernel) rfl hg1 ?_
      refine zGo_keep [0, 1, 2, 3] rfl ?_
      exact ih x1 (x2 + (1 : Int32)) x3 (cs M 207 0 (nx x2) x1) h
def mJ7_fill_207 (x1 : Int32) (M : cM) : Option cM := mJ7_fill_207_5 zfu x1 (0 : Int32) (100 : Int32) M
theorem mJ7_fill_207_ok {X : zX} {G : zG} (Hy : zHy X G qJ7_fill_207 zcC 0 0 (none)) {M' : cM} (hE : zEnd X G (none) (zfC M')) (x1 : Int32) (M : cM) (h : mJ7_fill_207 x1 M = some M') : zGo (X, qJ7_fill_207, G) 0 0 (0, [(0, .inr (.inr (some (207, 0)))), (1, .inl x1)], [], zfC M) := by
  unfold mJ7_fill_207 at h
  refine zblq Hy.1 Hy.2.1 [(.iconst 0, 1), (.istore 2, 1), (.aload 0, 1), (.arraylength, 1), (.istore 3, 1)] (S' := (5, [(0, .inr (.inr (some (207, 0)))), (1, .inl x1), (2, .inl (0 : Int32)), (3, .inl (100 : Int32))], [], zfC M)) (b := true) (by decide +kernel) rfl rfl ?_
  refine zGo_keep [0, 1, 2, 3] rfl ?_
  exact mJ7_fill_207_5_ok Hy hE zfu x1 (0 : Int32) (100 : Int32) M h
theorem mJ7_fill_207_met {l : Launch} {G : zG} (hG : zGok G) (hcn : zgcn G = zcC) {x1 : Int32} {M : cM} {M' : cM} (h : mJ7_fill_207 x1 M = some M') : zMet l G yJ7_fill_53178 cJ7_fill_53178 4 (none) 0 0 [.inr (.inr (some (207, 0))), .inl x1] (zfC M) (none) (zfC M') :=
  zMet_ofF hG tbJ7_ok rfl (by decide +kernel) (Nat.le_of_ble_eq_true rfl) (fun X _ Z hA hE => mJ7_fill_207_ok ⟨Z, hcn, hA⟩ hE x1 M h)
abbrev q1_aheadAt : ByteArray × Nat × String × zT := (cX1_aheadAt, 4, RX1, tbX1)
def m1_aheadAt (x1 : Int32) (x2 : Int32) (M : cM) : Option (Int32 × cM) := (if (((10 : Int32) * x1) + x2) < 0 then some ((9999 : Int32), M) else (if (100 : Int32) ≤ (((10 : Int32) * x1) + x2) then some ((9999 : Int32), M) else zgd (zin (((10 : Int32) * x1) + x2) 100 && true) (some (cg M 207 0 (nx (((10 : Int32) * x1) + x2)), M))))
theorem m1_aheadAt_ok {X : zX} {G : zG} (Hy : zHy X G q1_aheadAt zcC 0 0 (some .int)) {r : Int32} {M' : cM} (hE : zEnd X G (some (.inl r)) (zfC M')) (x1 : Int32) (x2 : Int32) (M : cM) (h : m1_aheadAt x1 x2 M = some (r, M')) : zGo (X, q1_aheadAt, G) 0 0 (0, [(0, .inr (.inr (some (1, 0)))), (1, .inl x1), (2, .inl x2)], [], zfC M) := by
  unfold m1_aheadAt at h
  refine zblq Hy.1 Hy.2.1 [(.iconst 10, 2), (.iload 1, 1), (.imul, 1), (.iload 2, 1), (.iadd, 1), (.istore 3, 1), (.iload 3, 1)] (S' := (8, [(0, .inr (.inr (some (1, 0)))), (1, .inl x1), (2, .inl x2), (3, .inl (((10 : Int32) * x1) + x2))], [.inl (((10 : Int32) * x1) + x2)], zfC M)) (b := true) (by decide +kernel) rfl rfl ?_
  refine zif_lt Hy.1 (off := 21) (tgt := 29) (by decide +kernel) (by decide) (fun hb3 => ?_) (fun hb3 => ?_)
  · replace h := zite_t h hb3
    refine zblq Hy.1 Hy.2.1 [(.iconst 9999, 3)] (S' := (32, [(0, .inr (.inr (some (1, 0)))), (1, .inl x1), (2, .inl x2), (3, .inl (((10 : Int32) * x1) + x2))], [.inl (9999 : Int32)], zfC M)) (b := true) (by decide +kernel) rfl rfl ?_
    cases h
    exact zret_i Hy.1 Hy.2.2 hE (by decide +kernel)
  · replace h := zite_f h hb3
    refine zblq Hy.1 Hy.2.1 [(.iload 3, 1), (.aload 0, 1), (.getfield 107, 3), (.arraylength, 1)] (S' := (17, [(0, .inr (.inr (some (1, 0)))), (1, .inl x1), (2, .inl x2), (3, .inl (((10 : Int32) * x1) + x2))], [.inl (100 : Int32), .inl (((10 : Int32) * x1) + x2)], zfC M)) (b := true) (by decide +kernel) rfl rfl ?_
    refine zic_ge Hy.1 (off := 12) (tgt := 29) (by decide +kernel) (by decide) (fun hb2 => ?_) (fun hb2 => ?_)
    · replace h := zite_t h hb2
      refine zblq Hy.1 Hy.2.1 [(.iconst 9999, 3)] (S' := (32, [(0, .inr (.inr (some (1, 0)))), (1, .inl x1), (2, .inl x2), (3, .inl (((10 : Int32) * x1) + x2))], [.inl (9999 : Int32)], zfC M)) (b := true) (by decide +kernel) rfl rfl ?_
      cases h
      exact zret_i Hy.1 Hy.2.2 hE (by decide +kernel)
    · replace h := zite_f h hb2
      obtain ⟨hg1, h⟩ := zgd_inv h
      refine zblq Hy.1 Hy.2.1 [(.aload 0, 1), (.getfield 107, 3), (.iload 3, 1), (.iaload, 1), (.ldc 32, 3)] (S' := (32, [(0, .inr (.inr (some (1, 0)))), (1, .inl x1), (2, .inl x2), (3, .inl (((10 : Int32) * x1) + x2))], [.inl (cg M 207 0 (nx (((10 : Int32) * x1) + x2)))], zfC M)) (b := zin (((10 : Int32) * x1) + x2) 100 && true) (by decide +kernel) rfl hg1 ?_
      cases h
      exact zret_i Hy.1 Hy.2.2 hE (by decide +kernel)
theorem m1_aheadAt_met {l : Launch} {G : zG} (hG : zGok G) (hcn : zgcn G = zcC) {x1 : Int32} {x2 : Int32} {M : cM} {r : Int32} {M' : cM} (h : m1_aheadAt x1 x2 M = some (r, M')) : zMet l G yX1_aheadAt cX1_aheadAt 4 (some .int) 0 0 [.inr (.inr (some (1, 0))), .inl x1, .inl x2] (zfC M) (some (.inl r)) (zfC M') :=
  zMet_of hG tbX1_ok rfl (by decide +kernel) (Nat.le_of_ble_eq_true rfl) (fun X _ Z hA hE => m1_aheadAt_ok ⟨Z, hcn, hA⟩ hE x1 x2 M h)
abbrev q1_hasLoopBelowZero : ByteArray × Nat × String × zT := (cX1_hasLoopBelowZero, 2, RX1, tbX1)
def m1_hasLoopBelowZero_2 : Nat → Int32 → cM → Option (Int32 × cM)
  | 0, _, _ => none
  | n + 1, x1, M => (if (cg M 3 0 4) ≤ x1 then some ((0 : Int32), M) else zbd (m1_aheadAt x1 x1 M) (fun r1 M1 => (if 0 ≤ r1 then (m1_hasLoopBelowZero_2 n) (x1 + (1 : Int32)) M1 else some ((1 : Int32), M1))))
theorem m1_hasLoopBelowZero_2_ok {X : zX} {G : zG} (Hy : zHy X G q1_hasLoopBelowZero zcC 1 23 (some .boolean)) {r : Int32} {M' : cM} (hE : zEnd X G (some (.inl r)) (zfC M')) : ∀ (n : Nat) (x1 : Int32) (M : cM), m1_hasLoopBelowZero_2 n x1 M = some (r, M') → zGo (X, q1_hasLoopBelowZero, G) 0 0 (2, [(0, .inr (.inr (some (1, 0)))), (1, .inl x1)], [], zfC M) := by
  intro n
  induction n with
  | zero => intro x1 M h; cases h
  | succ n ih =>
    intro x1 M h
    unfold m1_hasLoopBelowZero_2 at h
    refine zblq Hy.1 Hy.2.1 [(.iload 1, 1), (.aload 0, 1), (.getfield 100, 3), (.multianewarray 3 4, 3)] (S' := (10, [(0, .inr (.inr (some (1, 0)))), (1, .inl x1)], [.inl (cg M 3 0 4), .inl x1], zfC M)) (b := true) (by decide +kernel) rfl rfl ?_
    refine zic_ge Hy.1 (off := 20) (tgt := 30) (by decide +kernel) (by decide) (fun hb3 => ?_) (fun hb3 => ?_)
    · replace h := zite_t h hb3
      refine zblq Hy.1 Hy.2.1 [(.iconst 0, 1)] (S' := (31, [(0, .inr (.inr (some (1, 0)))), (1, .inl x1)], [.inl (0 : Int32)], zfC M)) (b := true) (by decide +kernel) rfl rfl ?_
      cases h
      exact zret_z Hy.1 Hy.2.2 (by decide) hE (by decide +kernel)
    · replace h := zite_f h hb3
      refine zblq Hy.1 Hy.2.1 [(.aload 0, 1), (.iload 1, 1), (.iload 1, 1)] (S' := (16, [(0, .inr (.inr (some (1, 0)))), (1, .inl x1)], [.inl x1, .inl x1, .inr (.inr (some (1, 0)))], zfC M)) (b := true) (by decide +kernel) rfl rfl ?_
      obtain ⟨r1, M1, hc1, h⟩ := zbd_inv h
      refine zcallV Hy.1 (as := [.inl x1, .inl x1]) (st := []) (m1_aheadAt_met (zOK_G Hy.1) Hy.2.1 hc1) cw1_56 m1_aheadAt_in m1_aheadAt_se (by decide) (zhlv Hy.2.1 rfl) rfl (zroom Hy.2.2 ⟨by decide, by decide⟩) rfl (by decide +kernel) ⟨Nat.zero_le _, Nat.zero_le _⟩ ?_
      refine zif_ge Hy.1 (off := 5) (tgt := 24) (by decide +kernel) (by decide) (fun hb2 => ?_) (fun hb2 => ?_)
      · replace h := zite_t h hb2
        refine zblq Hy.1 Hy.2.1 [(.iinc 1 1, 3), (.ldc 2, 3)] (S' := (2, [(0, .inr (.inr (some (1, 0)))), (1, .inl (x1 + (1 : Int32)))], [], zfC M1)) (b := true) (by decide +kernel) rfl rfl ?_
        refine zGo_keep [0, 1] rfl ?_
        exact ih (x1 + (1 : Int32)) M1 h
      · replace h := zite_f h hb2
        refine zblq Hy.1 Hy.2.1 [(.iconst 1, 1)] (S' := (23, [(0, .inr (.inr (some (1, 0)))), (1, .inl x1)], [.inl (1 : Int32)], zfC M1)) (b := true) (by decide +kernel) rfl rfl ?_
        cases h
        exact zret_z Hy.1 Hy.2.2 (by decide) hE (by decide +kernel)
def m1_hasLoopBelowZero  (M : cM) : Option (Int32 × cM) := m1_hasLoopBelowZero_2 zfu (0 : Int32) M
theorem m1_hasLoopBelowZero_ok {X : zX} {G : zG} (Hy : zHy X G q1_hasLoopBelowZero zcC 1 23 (some .boolean)) {r : Int32} {M' : cM} (hE : zEnd X G (some (.inl r)) (zfC M'))  (M : cM) (h : m1_hasLoopBelowZero M = some (r, M')) : zGo (X, q1_hasLoopBelowZero, G) 0 0 (0, [(0, .inr (.inr (some (1, 0))))], [], zfC M) := by
  unfold m1_hasLoopBelowZero at h
  refine zblq Hy.1 Hy.2.1 [(.iconst 0, 1), (.istore 1, 1)] (S' := (2, [(0, .inr (.inr (some (1, 0)))), (1, .inl (0 : Int32))], [], zfC M)) (b := true) (by decide +kernel) rfl rfl ?_
  refine zGo_keep [0, 1] rfl ?_
  exact m1_hasLoopBelowZero_2_ok Hy hE zfu (0 : Int32) M h
theorem m1_hasLoopBelowZero_met {l : Launch} {G : zG} (hG : zGok G) (hcn : zgcn G = zcC)  {M : cM} {r : Int32} {M' : cM} (h : m1_hasLoopBelowZero M = some (r, M')) : zMet l G yX1_hasLoopBelowZero cX1_hasLoopBelowZero 2 (some .boolean) 1 23 [.inr (.inr (some (1, 0)))] (zfC M) (some (.inl r)) (zfC M') :=
  zMet_of hG tbX1_ok rfl (by decide +kernel) (Nat.le_of_ble_eq_true rfl) (fun X _ Z hA hE => m1_hasLoopBelowZero_ok ⟨Z, hcn, hA⟩ hE M h)
abbrev q1_lower : ByteArray × Nat × String × zT := (cX1_lower, 5, RX1, tbX1)
def m1_lower (x1 : Int32) (x2 : Int32) (x3 : Int32) (M : cM) : Option cM := (if (((10 : Int32) * x1) + x2) < 0 then some M else (if (((10 : Int32) * x1) + x2) < (100 : Int32) then zgd (zin (((10 : Int32) * x1) + x2) 100 && true) (zbd (mJ9_min (cg M 207 0 (nx (((10 : Int32) * x1) + x2))) x3 M) (fun r2 M2 => zgd (zin (((10 : Int32) * x1) + x2) 100 && true) (some (cs M2 207 0 (nx (((10 : Int32) * x1) + x2)) r2)))) else some M))
theorem m1_lower_ok {X : zX} {G : zG} (Hy : zHy X G q1_lower zcC 1 21 (none)) {M' : cM} (hE : zEnd X G (none) (zfC M')) (x1 : Int32) (x2 : Int32) (x3 : Int32) (M : cM) (h : m1_lower x1 x2 x3 M = some M') : zGo (X, q1_lower, G) 0 0 (0, [(0, .inr (.inr (some (1, 0)))), (1, .inl x1), (2, .inl x2), (3, .inl x3)], [], zfC M) := by
  unfold m1_lower at h
  refine zblq Hy.1 Hy.2.1 [(.iconst 10, 2), (.iload 1, 1), (.imul, 1), (.iload 2, 1), (.iadd, 1), (.istore 4, 2), (.iload 4, 2)] (S' := (10, [(0, .inr (.inr (some (1, 0)))), (1, .inl x1), (2, .inl x2), (3, .inl x3), (4, .inl (((10 : Int32) * x1) + x2))], [.inl (((10 : Int32) * x1) + x2)], zfC M)) (b := true) (by decide +kernel) rfl rfl ?_
  refine zif_lt Hy.1 (off := 13) (tgt := 23) (by decide +kernel) (by decide) (fun hb5 => ?_) (fun hb5 => ?_)
  · replace h := zite_t h hb5
    cases h
    exact zret_v Hy.1 Hy.2.2 hE (by decide +kernel)
  · replace h := zite_f h hb5
    refine zblq Hy.1 Hy.2.1 [(.iload 4, 2), (.aload 0, 1), (.getfield 107, 3), (.arraylength, 1)] (S' := (20, [(0, .inr (.inr (some (1, 0)))), (1, .inl x1), (2, .inl x2), (3, .inl x3), (4, .inl (((10 : Int32) * x1) + x2))], [.inl (100 : Int32), .inl (((10 : Int32) * x1) + x2)], zfC M)) (b := true) (by decide +kernel) rfl rfl ?_
    refine zic_lt Hy.1 (off := 4) (tgt := 24) (by decide +kernel) (by decide) (fun hb4 => ?_) (fun hb4 => ?_)
    · replace h := zite_t h hb4
      obtain ⟨hg1, h⟩ := zgd_inv h
      refine zblq Hy.1 Hy.2.1 [(.aload 0, 1), (.getfield 107, 3), (.iload 4, 2), (.aload 0, 1), (.getfield 107, 3), (.iload 4, 2), (.iaload, 1), (.iload 3, 1)] (S' := (38, [(0, .inr (.inr (some (1, 0)))), (1, .inl x1), (2, .inl x2), (3, .inl x3), (4, .inl (((10 : Int32) * x1) + x2))], [.inl x3, .inl (cg M 207 0 (nx (((10 : Int32) * x1) + x2))), .inl (((10 : Int32) * x1) + x2), .inr (.inr (some (207, 0)))], zfC M)) (b := zin (((10 : Int32) * x1) + x2) 100 && true) (by decide +kernel) rfl hg1 ?_
      obtain ⟨r2, M2, hc2, h⟩ := zbd_inv h
      refine zcallS Hy.1 (as := [.inl (cg M 207 0 (nx (((10 : Int32) * x1) + x2))), .inl x3]) (st := [.inl (((10 : Int32) * x1) + x2), .inr (.inr (some (207, 0)))]) (mJ9_min_met (zOK_G Hy.1) Hy.2.1 hc2) cw1_65 mJ9_min_in rfl (zroom Hy.2.2 ⟨by decide, by decide⟩) rfl (by decide +kernel) ⟨Nat.zero_le _, Nat.zero_le _⟩ ?_
      obtain ⟨hg3, h⟩ := zgd_inv h
      refine zblq Hy.1 Hy.2.1 [(.iastore, 1)] (S' := (42, [(0, .inr (.inr (some (1, 0)))), (1, .inl x1), (2, .inl x2), (3, .inl x3), (4, .inl (((10 : Int32) * x1) + x2))], [], zfC (cs M2 207 0 (nx (((10 : Int32) * x1) + x2)) r2))) (b := zin (((10 : Int32) * x1) + x2) 100 && true) (by decide +kernel) rfl hg3 ?_
      cases h
      exact zret_v Hy.1 Hy.2.2 hE (by decide +kernel)
    · replace h := zite_f h hb4
      cases h
      exact zret_v Hy.1 Hy.2.2 hE (by decide +kernel)
theorem m1_lower_met {l : Launch} {G : zG} (hG : zGok G) (hcn : zgcn G = zcC) {x1 : Int32} {x2 : Int32} {x3 : Int32} {M : cM} {M' : cM} (h : m1_lower x1 x2 x3 M = some M') : zMet l G yX1_lower cX1_lower 5 (none) 1 21 [.inr (.inr (some (1, 0))), .inl x1, .inl x2, .inl x3] (zfC M) (none) (zfC M') :=
  zMet_of hG tbX1_ok rfl (by decide +kernel) (Nat.le_of_ble_eq_true rfl) (fun X _ Z hA hE => m1_lower_ok ⟨Z, hcn, hA⟩ hE x1 x2 x3 M h)
abbrev q1_goOver : ByteArray × Nat × String × zT := (cX1_goOver, 6, RX1, tbX1)
def m1_goOver_58 (k18 : Int32 → Int32 → Int32 → Int32 → cM → Option cM) (x1 : Int32) (x2 : Int32) (x3 : Int32) (x4 : Int32) (M : cM) : Option cM := k18 x1 x2 x3 (x4 + (1 : Int32)) M
theorem m1_goOver_58_ok {X : zX} {G : zG} (Hy : zHy X G q1_goOver zcC 2 45 (none)) {M' : cM} (hE : zEnd X G (none) (zfC M')) {k18 : Int32 → Int32 → Int32 → Int32 → cM → Option cM} (hk18 : ∀ (x1 : Int32) (x2 : Int32) (x3 : Int32) (x4 : Int32) (M : cM), k18 x1 x2 x3 x4 M = some M' → zGo (X, q1_goOver, G) 0 0 (18, [(0, .inr (.inr (some (1, 0)))), (1, .inl x1), (2, .inl x2), (3, .inl x3), (4, .inl x4)], [], zfC M)) (x1 : Int32) (x2 : Int32) (x3 : Int32) (x4 : Int32) (M : cM) (h : m1_goOver_58 k18 x1 x2 x3 x4 M = some M') : zGo (X, q1_goOver, G) 0 0 (58, [(0, .inr (.inr (some (1, 0)))), (1, .inl x1), (2, .inl x2), (3, .inl x3), (4, .inl x4)], [], zfC M) := by
  unfold m1_goOver_58 at h
  refine zblq Hy.1 Hy.2.1 [(.iinc 4 1, 3), (.ldc 18, 3)] (S' := (18, [(0, .inr (.inr (some (1, 0)))), (1, .inl x1), (2, .inl x2), (3, .inl x3), (4, .inl (x4 + (1 : Int32)))], [], zfC M)) (b := true) (by decide +kernel) rfl rfl ?_
  refine zGo_keep [0, 1, 2, 3, 4] rfl ?_
  exact hk18 x1 x2 x3 (x4 + (1 : Int32)) M h
def m1_goOver_18 : Nat → Int32 → Int32 → Int32 → Int32 → cM → Option cM
  | 0, _, _, _, _, _ => none
  | n + 1, x1, x2, x3, x4, M => (if (cg M 3 0 4) ≤ x4 then some M else zbd (m1_aheadAt x2 x4 M) (fun r2 M2 => (if r2 = (9999 : Int32) then m1_goOver_58 (m1_goOver_18 n) x1 x2 x3 x4 M2 else zbv (m1_lower x1 x4 (x3 + r2) M2) (fun M3 => m1_goOver_58 (m1_goOver_18 n) x1 x2 x3 x4 M3))))
theorem m1_goOver_18_ok {X : zX} {G : zG} (Hy : zHy X G q1_goOver zcC 2 45 (none)) {M' : cM} (hE : zEnd X G (none) (zfC M')) : ∀ (n : Nat) (x1 : Int32) (x2 : Int32) (x3 : Int32) (x4 : Int32) (M : cM), m1_goOver_18 n x1 x2 x3 x4 M = some M' → zGo (X, q1_goOver, G) 0 0 (18, [(0, .inr (.inr (some (1, 0)))), (1, .inl x1), (2, .inl x2), (3, .inl x3), (4, .inl x4)], [], zfC M) := by
  intro n
  induction n with
  | zero => intro x1 x2 x3 x4 M h; cases h
  | succ n ih =>
    intro x1 x2 x3 x4 M h
    unfold m1_goOver_18 at h
    refine zblq Hy.1 Hy.2.1 [(.iload 4, 2), (.aload 0, 1), (.getfield 100, 3), (.multianewarray 3 4, 3)] (S' := (27, [(0, .inr (.inr (some (1, 0)))), (1, .inl x1), (2, .inl x2), (3, .inl x3), (4, .inl x4)], [.inl (cg M 3 0 4), .inl x4], zfC M)) (b := true) (by decide +kernel) rfl rfl ?_
    refine zic_ge Hy.1 (off := 37) (tgt := 64) (by decide +kernel) (by decide) (fun hb5 => ?_) (fun hb5 => ?_)
    · replace h := zite_t h hb5
      cases h
      exact zret_v Hy.1 Hy.2.2 hE (by decide +kernel)
    · replace h := zite_f h hb5
      refine zblq Hy.1 Hy.2.1 [(.aload 0, 1), (.iload 2, 1), (.iload 4, 2)] (S' := (34, [(0, .inr (.inr (some (1, 0)))), (1, .inl x1), (2, .inl x2), (3, .inl x3), (4, .inl x4)], [.inl x4, .inl x2, .inr (.inr (some (1, 0)))], zfC M)) (b := true) (by decide +kernel) rfl rfl ?_
      obtain ⟨r2, M2, hc2, h⟩ := zbd_inv h
      refine zcallV Hy.1 (as := [.inl x2, .inl x4]) (st := []) (m1_aheadAt_met (zOK_G Hy.1) Hy.2.1 hc2) cw1_56 m1_aheadAt_in m1_aheadAt_se (by decide) (zhlv Hy.2.1 rfl) rfl (zroom Hy.2.2 ⟨by decide, by decide⟩) rfl (by decide +kernel) ⟨Nat.zero_le _, Nat.zero_le _⟩ ?_
      refine zblq Hy.1 Hy.2.1 [(.istore 5, 2), (.iload 5, 2), (.iconst 9999, 3)] (S' := (44, [(0, .inr (.inr (some (1, 0)))), (1, .inl x1), (2, .inl x2), (3, .inl x3), (4, .inl x4), (5, .inl r2)], [.inl (9999 : Int32), .inl r2], zfC M2)) (b := true) (by decide +kernel) rfl rfl ?_
      refine zic_eq Hy.1 (off := 14) (tgt := 58) (by decide +kernel) (by decide) (fun hb4 => ?_) (fun hb4 => ?_)
      · replace h := zite_t h hb4
        refine zGo_keep [0, 1, 2, 3, 4] rfl ?_
        exact m1_goOver_58_ok Hy hE ih x1 x2 x3 x4 M2 h
      · replace h := zite_f h hb4
        refine zblq Hy.1 Hy.2.1 [(.aload 0, 1), (.iload 1, 1), (.iload 4, 2), (.iload 3, 1), (.iload 5, 2), (.iadd, 1)] (S' := (55, [(0, .inr (.inr (some (1, 0)))), (1, .inl x1), (2, .inl x2), (3, .inl x3), (4, .inl x4), (5, .inl r2)], [.inl (x3 + r2), .inl x4, .inl x1, .inr (.inr (some (1, 0)))], zfC M2)) (b := true) (by decide +kernel) rfl rfl ?_
        obtain ⟨M3, hc3, h⟩ := zbv_inv h
        refine zcallV Hy.1 (as := [.inl x1, .inl x4, .inl (x3 + r2)]) (st := []) (m1_lower_met (zOK_G Hy.1) Hy.2.1 hc3) cw1_77 m1_lower_in m1_lower_se (by decide) (zhlv Hy.2.1 rfl) rfl (zroom Hy.2.2 ⟨by decide, by decide⟩) rfl (by decide +kernel) ⟨Nat.zero_le _, Nat.zero_le _⟩ ?_
        refine zGo_keep [0, 1, 2, 3, 4] rfl ?_
        exact m1_goOver_58_ok Hy hE ih x1 x2 x3 x4 M3 h
def m1_goOver (x1 : Int32) (x2 : Int32) (M : cM) : Option cM := zbd (m1_aheadAt x1 x2 M) (fun r1 M1 => (if r1 = (9999 : Int32) then some M1 else m1_goOver_18 zfu x1 x2 r1 (0 : Int32) M1))
theorem m1_goOver_ok {X : zX} {G : zG} (Hy : zHy X G q1_goOver zcC 2 45 (none)) {M' : cM} (hE : zEnd X G (none) (zfC M')) (x1 : Int32) (x2 : Int32) (M : cM) (h : m1_goOver x1 x2 M = some M') : zGo (X, q1_goOver, G) 0 0 (0, [(0, .inr (.inr (some (1, 0)))), (1, .inl x1), (2, .inl x2)], [], zfC M) := by
  unfold m1_goOver at h
  refine zblq Hy.1 Hy.2.1 [(.aload 0, 1), (.iload 1, 1), (.iload 2, 1)] (S' := (3, [(0, .inr (.inr (some (1, 0)))), (1, .inl x1), (2, .inl x2)], [.inl x2, .inl x1, .inr (.inr (some (1, 0)))], zfC M)) (b := true) (by decide +kernel) rfl rfl ?_
  obtain ⟨r1, M1, hc1, h⟩ := zbd_inv h
  refine zcallV Hy.1 (as := [.inl x1, .inl x2]) (st := []) (m1_aheadAt_met (zOK_G Hy.1) Hy.2.1 hc1) cw1_56 m1_aheadAt_in m1_aheadAt_se (by decide) (zhlv Hy.2.1 rfl) rfl (zroom Hy.2.2 ⟨by decide, by decide⟩) rfl (by decide +kernel) ⟨Nat.zero_le _, Nat.zero_le _⟩ ?_
  refine zblq Hy.1 Hy.2.1 [(.istore 3, 1), (.iload 3, 1), (.iconst 9999, 3)] (S' := (11, [(0, .inr (.inr (some (1, 0)))), (1, .inl x1), (2, .inl x2), (3, .inl r1)], [.inl (9999 : Int32), .inl r1], zfC M1)) (b := true) (by decide +kernel) rfl rfl ?_
  refine zic_ne Hy.1 (off := 4) (tgt := 15) (by decide +kernel) (by decide) (fun hb6 => ?_) (fun hb6 => ?_)
  · replace h := zite_f h hb6
    refine zblq Hy.1 Hy.2.1 [(.iconst 0, 1), (.istore 4, 2)] (S' := (18, [(0, .inr (.inr (some (1, 0)))), (1, .inl x1), (2, .inl x2), (3, .inl r1), (4, .inl (0 : Int32))], [], zfC M1)) (b := true) (by decide +kernel) rfl rfl ?_
    refine zGo_keep [0, 1, 2, 3, 4] rfl ?_
    exact m1_goOver_18_ok Hy hE zfu x1 x2 r1 (0 : Int32) M1 h
  · replace h := zite_t h hb6
    cases h
    exact zret_v Hy.1 Hy.2.2 hE (by decide +kernel)
theorem m1_goOver_met {l : Launch} {G : zG} (hG : zGok G) (hcn : zgcn G = zcC) {x1 : Int32} {x2 : Int32} {M : cM} {M' : cM} (h : m1_goOver x1 x2 M = some M') : zMet l G yX1_goOver cX1_goOver 6 (none) 2 45 [.inr (.inr (some (1, 0))), .inl x1, .inl x2] (zfC M) (none) (zfC M') :=
  zMet_of hG tbX1_ok rfl (by decide +kernel) (Nat.le_of_ble_eq_true rfl) (fun X _ Z hA hE => m1_goOver_ok ⟨Z, hcn, hA⟩ hE x1 x2 M h)
abbrev q1_canBeWithout : ByteArray × Nat × String × zT := (cX1_canBeWithout, 4, RX1, tbX1)
def m1_canBeWithout_135 (k122 : Int32 → cM → Option (Int32 × cM)) : Nat → Int32 → Int32 → cM → Option (Int32 × cM)
  | 0, _, _, _ => none
  | n + 1, x2, x3, M => (if (cg M 3 0 4) ≤ x3 then zbd (m1_hasLoopBelowZero M) (fun r2 M2 => (if r2 = 0 then k122 (x2 + (1 : Int32)) M2 else some ((0 : Int32), M2))) else zbv (m1_goOver x3 x2 M) (fun M4 => (m1_canBeWithout_135 k122 n) x2 (x3 + (1 : Int32)) M4))
theorem m1_canBeWithout_135_ok {X : zX} {G : zG} (Hy : zHy X G q1_canBeWithout zcC 3 70 (some .boolean)) {r : Int32} {M' : cM} (hE : zEnd X G (some (.inl r)) (zfC M')) {k122 : Int32 → cM → Option (Int32 × cM)} (hk122 : ∀ (x2 : Int32) (M : cM), k122 x2 M = some (r, M') → zGo (X, q1_canBeWithout, G) 0 0 (122, [(0, .inr (.inr (some (1, 0)))), (2, .inl x2)], [], zfC M)) : ∀ (n : Nat) (x2 : Int32) (x3 : Int32) (M : cM), m1_canBeWithout_135 k122 n x2 x3 M = some (r, M') → zGo (X, q1_canBeWithout, G) 0 0 (135, [(0, .inr (.inr (some (1, 0)))), (2, .inl x2), (3, .inl x3)], [], zfC M) := by
  intro n
  induction n with
  | zero => intro x2 x3 M h; cases h
  | succ n ih =>
    intro x2 x3 M h
    unfold m1_canBeWithout_135 at h
    refine zblq Hy.1 Hy.2.1 [(.iload 3, 1), (.aload 0, 1), (.getfield 100, 3), (.multianewarray 3 4, 3)] (S' := (143, [(0, .inr (.inr (some (1, 0)))), (2, .inl x2), (3, .inl x3)], [.inl (cg M 3 0 4), .inl x3], zfC M)) (b := true) (by decide +kernel) rfl rfl ?_
    refine zic_ge Hy.1 (off := 15) (tgt := 158) (by decide +kernel) (by decide) (fun hb5 => ?_) (fun hb5 => ?_)
    · replace h := zite_t h hb5
      refine zblq Hy.1 Hy.2.1 [(.aload 0, 1)] (S' := (159, [(0, .inr (.inr (some (1, 0)))), (2, .inl x2), (3, .inl x3)], [.inr (.inr (some (1, 0)))], zfC M)) (b := true) (by decide +kernel) rfl rfl ?_
      obtain ⟨r2, M2, hc2, h⟩ := zbd_inv h
      refine zcallV Hy.1 (as := []) (st := []) (m1_hasLoopBelowZero_met (zOK_G Hy.1) Hy.2.1 hc2) cw1_85 m1_hasLoopBelowZero_in m1_hasLoopBelowZero_se (by decide) (zhlv Hy.2.1 rfl) rfl (zroom Hy.2.2 ⟨by decide, by decide⟩) rfl (by decide +kernel) ⟨Nat.zero_le _, Nat.zero_le _⟩ ?_
      refine zif_eq Hy.1 (off := 5) (tgt := 167) (by decide +kernel) (by decide) (fun hb3 => ?_) (fun hb3 => ?_)
      · replace h := zite_t h hb3
        refine zblq Hy.1 Hy.2.1 [(.iinc 2 1, 3), (.ldc 122, 3)] (S' := (122, [(0, .inr (.inr (some (1, 0)))), (2, .inl (x2 + (1 : Int32))), (3, .inl x3)], [], zfC M2)) (b := true) (by decide +kernel) rfl rfl ?_
        refine zGo_keep [0, 2] rfl ?_
        exact hk122 (x2 + (1 : Int32)) M2 h
      · replace h := zite_f h hb3
        refine zblq Hy.1 Hy.2.1 [(.iconst 0, 1)] (S' := (166, [(0, .inr (.inr (some (1, 0)))), (2, .inl x2), (3, .inl x3)], [.inl (0 : Int32)], zfC M2)) (b := true) (by decide +kernel) rfl rfl ?_
        cases h
        exact zret_z Hy.1 Hy.2.2 (by decide) hE (by decide +kernel)
    · replace h := zite_f h hb5
      refine zblq Hy.1 Hy.2.1 [(.aload 0, 1), (.iload 3, 1), (.iload 2, 1)] (S' := (149, [(0, .inr (.inr (some (1, 0)))), (2, .inl x2), (3, .inl x3)], [.inl x2, .inl x3, .inr (.inr (some (1, 0)))], zfC M)) (b := true) (by decide +kernel) rfl rfl ?_
      obtain ⟨M4, hc4, h⟩ := zbv_inv h
      refine zcallV Hy.1 (as := [.inl x3, .inl x2]) (st := []) (m1_goOver_met (zOK_G Hy.1) Hy.2.1 hc4) cw1_81 m1_goOver_in m1_goOver_se (by decide) (zhlv Hy.2.1 rfl) rfl (zroom Hy.2.2 ⟨by decide, by decide⟩) rfl (by decide +kernel) ⟨Nat.zero_le _, Nat.zero_le _⟩ ?_
      refine zblq Hy.1 Hy.2.1 [(.iinc 3 1, 3), (.ldc 135, 3)] (S' := (135, [(0, .inr (.inr (some (1, 0)))), (2, .inl x2), (3, .inl (x3 + (1 : Int32)))], [], zfC M4)) (b := true) (by decide +kernel) rfl rfl ?_
      refine zGo_keep [0, 2, 3] rfl ?_
      exact ih x2 (x3 + (1 : Int32)) M4 h
def m1_canBeWithout_122 : Nat → Int32 → cM → Option (Int32 × cM)
  | 0, _, _ => none
  | n + 1, x2, M => (if (cg M 3 0 4) ≤ x2 then some ((1 : Int32), M) else m1_canBeWithout_135 (m1_canBeWithout_122 n) zfu x2 (0 : Int32) M)
theorem m1_canBeWithout_122_ok {X : zX} {G : zG} (Hy : zHy X G q1_canBeWithout zcC 3 70 (some .boolean)) {r : Int32} {M' : cM} (hE : zEnd X G (some (.inl r)) (zfC M')) : ∀ (n : Nat) (x2 : Int32) (M : cM), m1_canBeWithout_122 n x2 M = some (r, M') → zGo (X, q1_canBeWithout, G) 0 0 (122, [(0, .inr (.inr (some (1, 0)))), (2, .inl x2)], [], zfC M) := by
  intro n
  induction n with
  | zero => intro x2 M h; cases h
  | succ n ih =>
    intro x2 M h
    unfold m1_canBeWithout_122 at h
    refine zblq Hy.1 Hy.2.1 [(.iload 2, 1), (.aload 0, 1), (.getfield 100, 3), (.multianewarray 3 4, 3)] (S' := (130, [(0, .inr (.inr (some (1, 0)))), (2, .inl x2)], [.inl (cg M 3 0 4), .inl x2], zfC M)) (b := true) (by decide +kernel) rfl rfl ?_
    refine zic_ge Hy.1 (off := 43) (tgt := 173) (by decide +kernel) (by decide) (fun hb6 => ?_) (fun hb6 => ?_)
    · replace h := zite_t h hb6
      refine zblq Hy.1 Hy.2.1 [(.iconst 1, 1)] (S' := (174, [(0, .inr (.inr (some (1, 0)))), (2, .inl x2)], [.inl (1 : Int32)], zfC M)) (b := true) (by decide +kernel) rfl rfl ?_
      cases h
      exact zret_z Hy.1 Hy.2.2 (by decide) hE (by decide +kernel)
    · replace h := zite_f h hb6
      refine zblq Hy.1 Hy.2.1 [(.iconst 0, 1), (.istore 3, 1)] (S' := (135, [(0, .inr (.inr (some (1, 0)))), (2, .inl x2), (3, .inl (0 : Int32))], [], zfC M)) (b := true) (by decide +kernel) rfl rfl ?_
      refine zGo_keep [0, 2, 3] rfl ?_
      exact m1_canBeWithout_135_ok Hy hE ih zfu x2 (0 : Int32) M h
def m1_canBeWithout_120  (M : cM) : Option (Int32 × cM) := m1_canBeWithout_122 zfu (0 : Int32) M
theorem m1_canBeWithout_120_ok {X : zX} {G : zG} (Hy : zHy X G q1_canBeWithout zcC 3 70 (some .boolean)) {r : Int32} {M' : cM} (hE : zEnd X G (some (.inl r)) (zfC M'))  (M : cM) (h : m1_canBeWithout_120 M = some (r, M')) : zGo (X, q1_canBeWithout, G) 0 0 (120, [(0, .inr (.inr (some (1, 0))))], [], zfC M) := by
  unfold m1_canBeWithout_120 at h
  refine zblq Hy.1 Hy.2.1 [(.iconst 0, 1), (.istore 2, 1)] (S' := (122, [(0, .inr (.inr (some (1, 0)))), (2, .inl (0 : Int32))], [], zfC M)) (b := true) (by decide +kernel) rfl rfl ?_
  refine zGo_keep [0, 2] rfl ?_
  exact m1_canBeWithout_122_ok Hy hE zfu (0 : Int32) M h
def m1_canBeWithout_114 (k38 : Int32 → Int32 → cM → Option (Int32 × cM)) (x1 : Int32) (x2 : Int32) (M : cM) : Option (Int32 × cM) := k38 x1 (x2 + (1 : Int32)) M
theorem m1_canBeWithout_114_ok {X : zX} {G : zG} (Hy : zHy X G q1_canBeWithout zcC 3 70 (some .boolean)) {r : Int32} {M' : cM} (hE : zEnd X G (some (.inl r)) (zfC M')) {k38 : Int32 → Int32 → cM → Option (Int32 × cM)} (hk38 : ∀ (x1 : Int32) (x2 : Int32) (M : cM), k38 x1 x2 M = some (r, M') → zGo (X, q1_canBeWithout, G) 0 0 (38, [(0, .inr (.inr (some (1, 0)))), (1, .inl x1), (2, .inl x2)], [], zfC M)) (x1 : Int32) (x2 : Int32) (M : cM) (h : m1_canBeWithout_114 k38 x1 x2 M = some (r, M')) : zGo (X, q1_canBeWithout, G) 0 0 (114, [(0, .inr (.inr (some (1, 0)))), (1, .inl x1), (2, .inl x2)], [], zfC M) := by
  unfold m1_canBeWithout_114 at h
  refine zblq Hy.1 Hy.2.1 [(.iinc 2 1, 3), (.ldc 38, 3)] (S' := (38, [(0, .inr (.inr (some (1, 0)))), (1, .inl x1), (2, .inl (x2 + (1 : Int32)))], [], zfC M)) (b := true) (by decide +kernel) rfl rfl ?_
  refine zGo_keep [0, 1, 2] rfl ?_
  exact hk38 x1 (x2 + (1 : Int32)) M h
def m1_canBeWithout_38 : Nat → Int32 → Int32 → cM → Option (Int32 × cM)
  | 0, _, _, _ => none
  | n + 1, x1, x2, M => (if (cg M 1 0 6) ≤ x2 then m1_canBeWithout_120 M else (if (20 : Int32) ≤ x2 then m1_canBeWithout_120 M else zgd (zin x2 20 && true) ((if ((zshr x1 (cg M 201 0 (nx x2))) &&& (1 : Int32)) = (1 : Int32) then m1_canBeWithout_114 (m1_canBeWithout_38 n) x1 x2 M else zgd (zin x2 20 && (zin x2 20 && (zin x2 20 && true))) (zbv (m1_lower (cg M 202 0 (nx x2)) (cg M 203 0 (nx x2)) (cg M 205 0 (nx x2)) M) (fun M9 => zgd (zin x2 20 && (zin x2 20 && (zin x2 20 && true))) (zbv (m1_lower (cg M9 203 0 (nx x2)) (cg M9 202 0 (nx x2)) (-(cg M9 204 0 (nx x2))) M9) (fun M11 => m1_canBeWithout_114 (m1_canBeWithout_38 n) x1 x2 M11))))))))
theorem m1_canBeWithout_38_ok {X : zX} {G : zG} (Hy : zHy X G q1_canBeWithout zcC 3 70 (some .boolean)) {r : Int32} {M' : cM} (hE : zEnd X G (some (.inl r)) (zfC M')) : ∀ (n : Nat) (x1 : Int32) (x2 : Int32) (M : cM), m1_canBeWithout_38 n x1 x2 M = some (r, M') → zGo (X, q1_canBeWithout, G) 0 0 (38, [(0, .inr (.inr (some (1, 0)))), (1, .inl x1), (2, .inl x2)], [], zfC M) := by
  intro n
  induction n with
  | zero => intro x1 x2 M h; cases h
  | succ n ih =>
    intro x1 x2 M h
    unfold m1_canBeWithout_38 at h
    refine zblq Hy.1 Hy.2.1 [(.iload 2, 1), (.aload 0, 1), (.multianewarray 1 6, 3)] (S' := (43, [(0, .inr (.inr (some (1, 0)))), (1, .inl x1), (2, .inl x2)], [.inl (cg M 1 0 6), .inl x2], zfC M)) (b := true) (by decide +kernel) rfl rfl ?_
    refine zic_ge Hy.1 (off := 77) (tgt := 120) (by decide +kernel) (by decide) (fun hb14 => ?_) (fun hb14 => ?_)
    · replace h := zite_t h hb14
      refine zGo_keep [0] rfl ?_
      exact m1_canBeWithout_120_ok Hy hE M h
    · replace h := zite_f h hb14
      refine zblq Hy.1 Hy.2.1 [(.iload 2, 1), (.iconst 20, 2)] (S' := (49, [(0, .inr (.inr (some (1, 0)))), (1, .inl x1), (2, .inl x2)], [.inl (20 : Int32), .inl x2], zfC M)) (b := true) (by decide +kernel) rfl rfl ?_
      refine zic_ge Hy.1 (off := 71) (tgt := 120) (by decide +kernel) (by decide) (fun hb13 => ?_) (fun hb13 => ?_)
      · replace h := zite_t h hb13
        refine zGo_keep [0] rfl ?_
        exact m1_canBeWithout_120_ok Hy hE M h
      · replace h := zite_f h hb13
        obtain ⟨hg7, h⟩ := zgd_inv h
        refine zblq Hy.1 Hy.2.1 [(.iload 1, 1), (.aload 0, 1), (.getfield 101, 3), (.iload 2, 1), (.iaload, 1), (.ishr, 1), (.iconst 1, 1), (.iand, 1), (.iconst 1, 1)] (S' := (63, [(0, .inr (.inr (some (1, 0)))), (1, .inl x1), (2, .inl x2)], [.inl (1 : Int32), .inl ((zshr x1 (cg M 201 0 (nx x2))) &&& (1 : Int32))], zfC M)) (b := zin x2 20 && true) (by decide +kernel) rfl hg7 ?_
        refine zic_ne Hy.1 (off := 6) (tgt := 69) (by decide +kernel) (by decide) (fun hb12 => ?_) (fun hb12 => ?_)
        · replace h := zite_f h hb12
          obtain ⟨hg8, h⟩ := zgd_inv h
          refine zblq Hy.1 Hy.2.1 [(.aload 0, 1), (.aload 0, 1), (.getfield 102, 3), (.iload 2, 1), (.iaload, 1), (.aload 0, 1), (.getfield 103, 3), (.iload 2, 1), (.iaload, 1), (.aload 0, 1), (.getfield 105, 3), (.iload 2, 1), (.iaload, 1)] (S' := (88, [(0, .inr (.inr (some (1, 0)))), (1, .inl x1), (2, .inl x2)], [.inl (cg M 205 0 (nx x2)), .inl (cg M 203 0 (nx x2)), .inl (cg M 202 0 (nx x2)), .inr (.inr (some (1, 0)))], zfC M)) (b := zin x2 20 && (zin x2 20 && (zin x2 20 && true))) (by decide +kernel) rfl hg8 ?_
          obtain ⟨M9, hc9, h⟩ := zbv_inv h
          refine zcallV Hy.1 (as := [.inl (cg M 202 0 (nx x2)), .inl (cg M 203 0 (nx x2)), .inl (cg M 205 0 (nx x2))]) (st := []) (m1_lower_met (zOK_G Hy.1) Hy.2.1 hc9) cw1_77 m1_lower_in m1_lower_se (by decide) (zhlv Hy.2.1 rfl) rfl (zroom Hy.2.2 ⟨by decide, by decide⟩) rfl (by decide +kernel) ⟨Nat.zero_le _, Nat.zero_le _⟩ ?_
          obtain ⟨hg10, h⟩ := zgd_inv h
          refine zblq Hy.1 Hy.2.1 [(.aload 0, 1), (.aload 0, 1), (.getfield 103, 3), (.iload 2, 1), (.iaload, 1), (.aload 0, 1), (.getfield 102, 3), (.iload 2, 1), (.iaload, 1), (.aload 0, 1), (.getfield 104, 3), (.iload 2, 1), (.iaload, 1), (.ineg, 1)] (S' := (111, [(0, .inr (.inr (some (1, 0)))), (1, .inl x1), (2, .inl x2)], [.inl (-(cg M9 204 0 (nx x2))), .inl (cg M9 202 0 (nx x2)), .inl (cg M9 203 0 (nx x2)), .inr (.inr (some (1, 0)))], zfC M9)) (b := zin x2 20 && (zin x2 20 && (zin x2 20 && true))) (by decide +kernel) rfl hg10 ?_
          obtain ⟨M11, hc11, h⟩ := zbv_inv h
          refine zcallV Hy.1 (as := [.inl (cg M9 203 0 (nx x2)), .inl (cg M9 202 0 (nx x2)), .inl (-(cg M9 204 0 (nx x2)))]) (st := []) (m1_lower_met (zOK_G Hy.1) Hy.2.1 hc11) cw1_77 m1_lower_in m1_lower_se (by decide) (zhlv Hy.2.1 rfl) rfl (zroom Hy.2.2 ⟨by decide, by decide⟩) rfl (by decide +kernel) ⟨Nat.zero_le _, Nat.zero_le _⟩ ?_
          refine zGo_keep [0, 1, 2] rfl ?_
          exact m1_canBeWithout_114_ok Hy hE ih x1 x2 M11 h
        · replace h := zite_t h hb12
          refine zblq Hy.1 Hy.2.1 [(.ldc 114, 3)] (S' := (114, [(0, .inr (.inr (some (1, 0)))), (1, .inl x1), (2, .inl x2)], [], zfC M)) (b := true) (by decide +kernel) rfl rfl ?_
          refine zGo_keep [0, 1, 2] rfl ?_
          exact m1_canBeWithout_114_ok Hy hE ih x1 x2 M h
def m1_canBeWithout_12 : Nat → Int32 → Int32 → cM → Option (Int32 × cM)
  | 0, _, _, _ => none
  | n + 1, x1, x2, M => (if (cg M 3 0 4) ≤ x2 then m1_canBeWithout_38 zfu x1 (0 : Int32) M else zbv (m1_lower x2 x2 (0 : Int32) M) (fun M15 => (m1_canBeWithout_12 n) x1 (x2 + (1 : Int32)) M15))
theorem m1_canBeWithout_12_ok {X : zX} {G : zG} (Hy : zHy X G q1_canBeWithout zcC 3 70 (some .boolean)) {r : Int32} {M' : cM} (hE : zEnd X G (some (.inl r)) (zfC M')) : ∀ (n : Nat) (x1 : Int32) (x2 : Int32) (M : cM), m1_canBeWithout_12 n x1 x2 M = some (r, M') → zGo (X, q1_canBeWithout, G) 0 0 (12, [(0, .inr (.inr (some (1, 0)))), (1, .inl x1), (2, .inl x2)], [], zfC M) := by
  intro n
  induction n with
  | zero => intro x1 x2 M h; cases h
  | succ n ih =>
    intro x1 x2 M h
    unfold m1_canBeWithout_12 at h
    refine zblq Hy.1 Hy.2.1 [(.iload 2, 1), (.aload 0, 1), (.getfield 100, 3), (.multianewarray 3 4, 3)] (S' := (20, [(0, .inr (.inr (some (1, 0)))), (1, .inl x1), (2, .inl x2)], [.inl (cg M 3 0 4), .inl x2], zfC M)) (b := true) (by decide +kernel) rfl rfl ?_
    refine zic_ge Hy.1 (off := 16) (tgt := 36) (by decide +kernel) (by decide) (fun hb16 => ?_) (fun hb16 => ?_)
    · replace h := zite_t h hb16
      refine zblq Hy.1 Hy.2.1 [(.iconst 0, 1), (.istore 2, 1)] (S' := (38, [(0, .inr (.inr (some (1, 0)))), (1, .inl x1), (2, .inl (0 : Int32))], [], zfC M)) (b := true) (by decide +kernel) rfl rfl ?_
      refine zGo_keep [0, 1, 2] rfl ?_
      exact m1_canBeWithout_38_ok Hy hE zfu x1 (0 : Int32) M h
    · replace h := zite_f h hb16
      refine zblq Hy.1 Hy.2.1 [(.aload 0, 1), (.iload 2, 1), (.iload 2, 1), (.iconst 0, 1)] (S' := (27, [(0, .inr (.inr (some (1, 0)))), (1, .inl x1), (2, .inl x2)], [.inl (0 : Int32), .inl x2, .inl x2, .inr (.inr (some (1, 0)))], zfC M)) (b := true) (by decide +kernel) rfl rfl ?_
      obtain ⟨M15, hc15, h⟩ := zbv_inv h
      refine zcallV Hy.1 (as := [.inl x2, .inl x2, .inl (0 : Int32)]) (st := []) (m1_lower_met (zOK_G Hy.1) Hy.2.1 hc15) cw1_77 m1_lower_in m1_lower_se (by decide) (zhlv Hy.2.1 rfl) rfl (zroom Hy.2.2 ⟨by decide, by decide⟩) rfl (by decide +kernel) ⟨Nat.zero_le _, Nat.zero_le _⟩ ?_
      refine zblq Hy.1 Hy.2.1 [(.iinc 2 1, 3), (.ldc 12, 3)] (S' := (12, [(0, .inr (.inr (some (1, 0)))), (1, .inl x1), (2, .inl (x2 + (1 : Int32)))], [], zfC M15)) (b := true) (by decide +kernel) rfl rfl ?_
      refine zGo_keep [0, 1, 2] rfl ?_
      exact ih x1 (x2 + (1 : Int32)) M15 h
def m1_canBeWithout (x1 : Int32) (M : cM) : Option (Int32 × cM) := zbv (mJ7_fill_207 (9999 : Int32) M) (fun M1 => m1_canBeWithout_12 zfu x1 (0 : Int32) M1)
theorem m1_canBeWithout_ok {X : zX} {G : zG} (Hy : zHy X G q1_canBeWithout zcC 3 70 (some .boolean)) {r : Int32} {M' : cM} (hE : zEnd X G (some (.inl r)) (zfC M')) (x1 : Int32) (M : cM) (h : m1_canBeWithout x1 M = some (r, M')) : zGo (X, q1_canBeWithout, G) 0 0 (0, [(0, .inr (.inr (some (1, 0)))), (1, .inl x1)], [], zfC M) := by
  unfold m1_canBeWithout at h
  refine zblq Hy.1 Hy.2.1 [(.aload 0, 1), (.getfield 107, 3), (.iconst 9999, 3)] (S' := (7, [(0, .inr (.inr (some (1, 0)))), (1, .inl x1)], [.inl (9999 : Int32), .inr (.inr (some (207, 0)))], zfC M)) (b := true) (by decide +kernel) rfl rfl ?_
  obtain ⟨M1, hc1, h⟩ := zbv_inv h
  refine zcallS Hy.1 (as := [.inr (.inr (some (207, 0))), .inl (9999 : Int32)]) (st := []) (mJ7_fill_207_met (zOK_G Hy.1) Hy.2.1 hc1) cw1_68 mJ7_fill_in rfl (zroom Hy.2.2 ⟨by decide, by decide⟩) rfl (by decide +kernel) ⟨Nat.zero_le _, Nat.zero_le _⟩ ?_
  refine zblq Hy.1 Hy.2.1 [(.iconst 0, 1), (.istore 2, 1)] (S' := (12, [(0, .inr (.inr (some (1, 0)))), (1, .inl x1), (2, .inl (0 : Int32))], [], zfC M1)) (b := true) (by decide +kernel) rfl rfl ?_
  refine zGo_keep [0, 1, 2] rfl ?_
  exact m1_canBeWithout_12_ok Hy hE zfu x1 (0 : Int32) M1 h
theorem m1_canBeWithout_met {l : Launch} {G : zG} (hG : zGok G) (hcn : zgcn G = zcC) {x1 : Int32} {M : cM} {r : Int32} {M' : cM} (h : m1_canBeWithout x1 M = some (r, M')) : zMet l G yX1_canBeWithout cX1_canBeWithout 4 (some .boolean) 3 70 [.inr (.inr (some (1, 0))), .inl x1] (zfC M) (some (.inl r)) (zfC M') :=
  zMet_of hG tbX1_ok rfl (by decide +kernel) (Nat.le_of_ble_eq_true rfl) (fun X _ Z hA hE => m1_canBeWithout_ok ⟨Z, hcn, hA⟩ hE x1 M h)
abbrev q1_aheadOfRoot : ByteArray × Nat × String × zT := (cX1_aheadOfRoot, 8, RX1, tbX1)
def m1_aheadOfRoot_104 (k27 : Int32 → Int32 → Int32 → Int32 → Int32 → Int32 → Int32 → cM → Option (Int32 × cM)) (x1 : Int32) (x2 : Int32) (x3 : Int32) (x4 : Int32) (x5 : Int32) (x6 : Int32) (x7 : Int32) (M : cM) : Option (Int32 × cM) := k27 x1 x2 x3 x4 x5 x6 (x7 + (2 : Int32)) M
theorem m1_aheadOfRoot_104_ok {X : zX} {G : zG} (Hy : zHy X G q1_aheadOfRoot zcC 4 93 (some .int)) {r : Int32} {M' : cM} (hE : zEnd X G (some (.inl r)) (zfC M')) {k27 : Int32 → Int32 → Int32 → Int32 → Int32 → Int32 → Int32 → cM → Option (Int32 × cM)} (hk27 : ∀ (x1 : Int32) (x2 : Int32) (x3 : Int32) (x4 : Int32) (x5 : Int32) (x6 : Int32) (x7 : Int32) (M : cM), k27 x1 x2 x3 x4 x5 x6 x7 M = some (r, M') → zGo (X, q1_aheadOfRoot, G) 0 0 (27, [(0, .inr (.inr (some (1, 0)))), (1, .inl x1), (2, .inl x2), (3, .inl x3), (4, .inl x4), (5, .inl x5), (6, .inl x6), (7, .inl x7)], [], zfC M)) (x1 : Int32) (x2 : Int32) (x3 : Int32) (x4 : Int32) (x5 : Int32) (x6 : Int32) (x7 : Int32) (M : cM) (h : m1_aheadOfRoot_104 k27 x1 x2 x3 x4 x5 x6 x7 M = some (r, M')) : zGo (X, q1_aheadOfRoot, G) 0 0 (104, [(0, .inr (.inr (some (1, 0)))), (1, .inl x1), (2, .inl x2), (3, .inl x3), (4, .inl x4), (5, .inl x5), (6, .inl x6), (7, .inl x7)], [], zfC M) := by
  unfold m1_aheadOfRoot_104 at h
  refine zblq Hy.1 Hy.2.1 [(.iinc 7 2, 3), (.ldc 27, 3)] (S' := (27, [(0, .inr (.inr (some (1, 0)))), (1, .inl x1), (2, .inl x2), (3, .inl x3), (4, .inl x4), (5, .inl x5), (6, .inl x6), (7, .inl (x7 + (2 : Int32)))], [], zfC M)) (b := true) (by decide +kernel) rfl rfl ?_
  refine zGo_keep [0, 1, 2, 3, 4, 5, 6, 7] rfl ?_
  exact hk27 x1 x2 x3 x4 x5 x6 (x7 + (2 : Int32)) M h
def m1_aheadOfRoot_27 : Nat → Int32 → Int32 → Int32 → Int32 → Int32 → Int32 → Int32 → cM → Option (Int32 × cM)
  | 0, _, _, _, _, _, _, _, _ => none
  | n + 1, x1, x2, x3, x4, x5, x6, x7, M => (if (1024 : Int32) ≤ x7 then (if x4 = 0 then some ((-2147483648 : Int32), M) else some (x5, M)) else (if (x7 &&& x6) = 0 then zbd (mJ6_bitCount x7 M) (fun r3 M3 => (if r3 ≤ x2 then zbd (m1_canBeWithout x7 M3) (fun r4 M4 => (if r4 = 0 then m1_aheadOfRoot_104 (m1_aheadOfRoot_27 n) x1 x2 x3 x4 x5 x6 x7 M4 else (if x3 = 0 then zbd (m1_aheadAt x1 (0 : Int32) M4) (fun r5 M5 => zbd (mJ9_min x5 (-r5) M5) (fun r6 M6 => m1_aheadOfRoot_104 (m1_aheadOfRoot_27 n) x1 x2 x3 (1 : Int32) r6 x6 x7 M6)) else zbd (m1_aheadAt (0 : Int32) x1 M4) (fun r7 M7 => zbd (mJ9_max x5 r7 M7) (fun r8 M8 => m1_aheadOfRoot_104 (m1_aheadOfRoot_27 n) x1 x2 x3 (1 : Int32) r8 x6 x7 M8))))) else m1_aheadOfRoot_104 (m1_aheadOfRoot_27 n) x1 x2 x3 x4 x5 x6 x7 M3)) else m1_aheadOfRoot_104 (m1_aheadOfRoot_27 n) x1 x2 x3 x4 x5 x6 x7 M))
theorem m1_aheadOfRoot_27_ok {X : zX} {G : zG} (Hy : zHy X G q1_aheadOfRoot zcC 4 93 (some .int)) {r : Int32} {M' : cM} (hE : zEnd X G (some (.inl r)) (zfC M')) : ∀ (n : Nat) (x1 : Int32) (x2 : Int32) (x3 : Int32) (x4 : Int32) (x5 : Int32) (x6 : Int32) (x7 : Int32) (M : cM), m1_aheadOfRoot_27 n x1 x2 x3 x4 x5 x6 x7 M = some (r, M') → zGo (X, q1_aheadOfRoot, G) 0 0 (27, [(0, .inr (.inr (some (1, 0)))), (1, .inl x1), (2, .inl x2), (3, .inl x3), (4, .inl x4), (5, .inl x5), (6, .inl x6), (7, .inl x7)], [], zfC M) := by
  intro n
  induction n with
  | zero => intro x1 x2 x3 x4 x5 x6 x7 M h; cases h
  | succ n ih =>
    intro x1 x2 x3 x4 x5 x6 x7 M h
    unfold m1_aheadOfRoot_27 at h
    refine zblq Hy.1 Hy.2.1 [(.iload 7, 2), (.iconst 1024, 3)] (S' := (32, [(0, .inr (.inr (some (1, 0)))), (1, .inl x1), (2, .inl x2), (3, .inl x3), (4, .inl x4), (5, .inl x5), (6, .inl x6), (7, .inl x7)], [.inl (1024 : Int32), .inl x7], zfC M)) (b := true) (by decide +kernel) rfl rfl ?_
    refine zic_ge Hy.1 (off := 78) (tgt := 110) (by decide +kernel) (by decide) (fun hb13 => ?_) (fun hb13 => ?_)
    · replace h := zite_t h hb13
      refine zblq Hy.1 Hy.2.1 [(.iload 4, 2)] (S' := (112, [(0, .inr (.inr (some (1, 0)))), (1, .inl x1), (2, .inl x2), (3, .inl x3), (4, .inl x4), (5, .inl x5), (6, .inl x6), (7, .inl x7)], [.inl x4], zfC M)) (b := true) (by decide +kernel) rfl rfl ?_
      refine zif_eq Hy.1 (off := 8) (tgt := 120) (by decide +kernel) (by decide) (fun hb2 => ?_) (fun hb2 => ?_)
      · replace h := zite_t h hb2
        refine zblq Hy.1 Hy.2.1 [(.iconst (-2147483648), 2)] (S' := (122, [(0, .inr (.inr (some (1, 0)))), (1, .inl x1), (2, .inl x2), (3, .inl x3), (4, .inl x4), (5, .inl x5), (6, .inl x6), (7, .inl x7)], [.inl (-2147483648 : Int32)], zfC M)) (b := true) (by decide +kernel) rfl rfl ?_
        cases h
        exact zret_i Hy.1 Hy.2.2 hE (by decide +kernel)
      · replace h := zite_f h hb2
        refine zblq Hy.1 Hy.2.1 [(.iload 5, 2), (.ldc 122, 3)] (S' := (122, [(0, .inr (.inr (some (1, 0)))), (1, .inl x1), (2, .inl x2), (3, .inl x3), (4, .inl x4), (5, .inl x5), (6, .inl x6), (7, .inl x7)], [.inl x5], zfC M)) (b := true) (by decide +kernel) rfl rfl ?_
        cases h
        exact zret_i Hy.1 Hy.2.2 hE (by decide +kernel)
    · replace h := zite_f h hb13
      refine zblq Hy.1 Hy.2.1 [(.iload 7, 2), (.iload 6, 2), (.iand, 1)] (S' := (40, [(0, .inr (.inr (some (1, 0)))), (1, .inl x1), (2, .inl x2), (3, .inl x3), (4, .inl x4), (5, .inl x5), (6, .inl x6), (7, .inl x7)], [.inl (x7 &&& x6)], zfC M)) (b := true) (by decide +kernel) rfl rfl ?_
      refine zif_ne Hy.1 (off := 64) (tgt := 104) (by decide +kernel) (by decide) (fun hb12 => ?_) (fun hb12 => ?_)
      · replace h := zite_f h hb12
        refine zGo_keep [0, 1, 2, 3, 4, 5, 6, 7] rfl ?_
        exact m1_aheadOfRoot_104_ok Hy hE ih x1 x2 x3 x4 x5 x6 x7 M h
      · replace h := zite_t h hb12
        refine zblq Hy.1 Hy.2.1 [(.iload 7, 2)] (S' := (45, [(0, .inr (.inr (some (1, 0)))), (1, .inl x1), (2, .inl x2), (3, .inl x3), (4, .inl x4), (5, .inl x5), (6, .inl x6), (7, .inl x7)], [.inl x7], zfC M)) (b := true) (by decide +kernel) rfl rfl ?_
        obtain ⟨r3, M3, hc3, h⟩ := zbd_inv h
        refine zcallS Hy.1 (as := [.inl x7]) (st := []) (mJ6_bitCount_met (zOK_G Hy.1) Hy.2.1 hc3) cw1_48 mJ6_bitCount_in rfl (zroom Hy.2.2 ⟨by decide, by decide⟩) rfl (by decide +kernel) ⟨Nat.zero_le _, Nat.zero_le _⟩ ?_
        refine zblq Hy.1 Hy.2.1 [(.iload 2, 1)] (S' := (49, [(0, .inr (.inr (some (1, 0)))), (1, .inl x1), (2, .inl x2), (3, .inl x3), (4, .inl x4), (5, .inl x5), (6, .inl x6), (7, .inl x7)], [.inl x2, .inl r3], zfC M3)) (b := true) (by decide +kernel) rfl rfl ?_
        refine zic_le Hy.1 (off := 6) (tgt := 55) (by decide +kernel) (by decide) (fun hb11 => ?_) (fun hb11 => ?_)
        · replace h := zite_t h hb11
          refine zblq Hy.1 Hy.2.1 [(.aload 0, 1), (.iload 7, 2)] (S' := (58, [(0, .inr (.inr (some (1, 0)))), (1, .inl x1), (2, .inl x2), (3, .inl x3), (4, .inl x4), (5, .inl x5), (6, .inl x6), (7, .inl x7)], [.inl x7, .inr (.inr (some (1, 0)))], zfC M3)) (b := true) (by decide +kernel) rfl rfl ?_
          obtain ⟨r4, M4, hc4, h⟩ := zbd_inv h
          refine zcallV Hy.1 (as := [.inl x7]) (st := []) (m1_canBeWithout_met (zOK_G Hy.1) Hy.2.1 hc4) cw1_52 m1_canBeWithout_in m1_canBeWithout_se (by decide) (zhlv Hy.2.1 rfl) rfl (zroom Hy.2.2 ⟨by decide, by decide⟩) rfl (by decide +kernel) ⟨Nat.zero_le _, Nat.zero_le _⟩ ?_
          refine zif_ne Hy.1 (off := 6) (tgt := 67) (by decide +kernel) (by decide) (fun hb10 => ?_) (fun hb10 => ?_)
          · replace h := zite_f h hb10
            refine zblq Hy.1 Hy.2.1 [(.iconst 1, 1), (.istore 4, 2), (.iload 3, 1)] (S' := (71, [(0, .inr (.inr (some (1, 0)))), (1, .inl x1), (2, .inl x2), (3, .inl x3), (4, .inl (1 : Int32)), (5, .inl x5), (6, .inl x6), (7, .inl x7)], [.inl x3], zfC M4)) (b := true) (by decide +kernel) rfl rfl ?_
            refine zif_eq Hy.1 (off := 19) (tgt := 90) (by decide +kernel) (by decide) (fun hb9 => ?_) (fun hb9 => ?_)
            · replace h := zite_t h hb9
              refine zblq Hy.1 Hy.2.1 [(.iload 5, 2), (.aload 0, 1), (.iload 1, 1), (.iconst 0, 1)] (S' := (95, [(0, .inr (.inr (some (1, 0)))), (1, .inl x1), (2, .inl x2), (3, .inl x3), (4, .inl (1 : Int32)), (5, .inl x5), (6, .inl x6), (7, .inl x7)], [.inl (0 : Int32), .inl x1, .inr (.inr (some (1, 0))), .inl x5], zfC M4)) (b := true) (by decide +kernel) rfl rfl ?_
              obtain ⟨r5, M5, hc5, h⟩ := zbd_inv h
              refine zcallV Hy.1 (as := [.inl x1, .inl (0 : Int32)]) (st := [.inl x5]) (m1_aheadAt_met (zOK_G Hy.1) Hy.2.1 hc5) cw1_56 m1_aheadAt_in m1_aheadAt_se (by decide) (zhlv Hy.2.1 rfl) rfl (zroom Hy.2.2 ⟨by decide, by decide⟩) rfl (by decide +kernel) ⟨Nat.zero_le _, Nat.zero_le _⟩ ?_
              refine zblq Hy.1 Hy.2.1 [(.ineg, 1)] (S' := (99, [(0, .inr (.inr (some (1, 0)))), (1, .inl x1), (2, .inl x2), (3, .inl x3), (4, .inl (1 : Int32)), (5, .inl x5), (6, .inl x6), (7, .inl x7)], [.inl (-r5), .inl x5], zfC M5)) (b := true) (by decide +kernel) rfl rfl ?_
              obtain ⟨r6, M6, hc6, h⟩ := zbd_inv h
              refine zcallS Hy.1 (as := [.inl x5, .inl (-r5)]) (st := []) (mJ9_min_met (zOK_G Hy.1) Hy.2.1 hc6) cw1_65 mJ9_min_in rfl (zroom Hy.2.2 ⟨by decide, by decide⟩) rfl (by decide +kernel) ⟨Nat.zero_le _, Nat.zero_le _⟩ ?_
              refine zblq Hy.1 Hy.2.1 [(.istore 5, 2)] (S' := (104, [(0, .inr (.inr (some (1, 0)))), (1, .inl x1), (2, .inl x2), (3, .inl x3), (4, .inl (1 : Int32)), (5, .inl r6), (6, .inl x6), (7, .inl x7)], [], zfC M6)) (b := true) (by decide +kernel) rfl rfl ?_
              refine zGo_keep [0, 1, 2, 3, 4, 5, 6, 7] rfl ?_
              exact m1_aheadOfRoot_104_ok Hy hE ih x1 x2 x3 (1 : Int32) r6 x6 x7 M6 h
            · replace h := zite_f h hb9
              refine zblq Hy.1 Hy.2.1 [(.iload 5, 2), (.aload 0, 1), (.iconst 0, 1), (.iload 1, 1)] (S' := (79, [(0, .inr (.inr (some (1, 0)))), (1, .inl x1), (2, .inl x2), (3, .inl x3), (4, .inl (1 : Int32)), (5, .inl x5), (6, .inl x6), (7, .inl x7)], [.inl x1, .inl (0 : Int32), .inr (.inr (some (1, 0))), .inl x5], zfC M4)) (b := true) (by decide +kernel) rfl rfl ?_
              obtain ⟨r7, M7, hc7, h⟩ := zbd_inv h
              refine zcallV Hy.1 (as := [.inl (0 : Int32), .inl x1]) (st := [.inl x5]) (m1_aheadAt_met (zOK_G Hy.1) Hy.2.1 hc7) cw1_56 m1_aheadAt_in m1_aheadAt_se (by decide) (zhlv Hy.2.1 rfl) rfl (zroom Hy.2.2 ⟨by decide, by decide⟩) rfl (by decide +kernel) ⟨Nat.zero_le _, Nat.zero_le _⟩ ?_
              obtain ⟨r8, M8, hc8, h⟩ := zbd_inv h
              refine zcallS Hy.1 (as := [.inl x5, .inl r7]) (st := []) (mJ9_max_met (zOK_G Hy.1) Hy.2.1 hc8) cw1_60 mJ9_max_in rfl (zroom Hy.2.2 ⟨by decide, by decide⟩) rfl (by decide +kernel) ⟨Nat.zero_le _, Nat.zero_le _⟩ ?_
              refine zblq Hy.1 Hy.2.1 [(.istore 5, 2), (.ldc 104, 3)] (S' := (104, [(0, .inr (.inr (some (1, 0)))), (1, .inl x1), (2, .inl x2), (3, .inl x3), (4, .inl (1 : Int32)), (5, .inl r8), (6, .inl x6), (7, .inl x7)], [], zfC M8)) (b := true) (by decide +kernel) rfl rfl ?_
              refine zGo_keep [0, 1, 2, 3, 4, 5, 6, 7] rfl ?_
              exact m1_aheadOfRoot_104_ok Hy hE ih x1 x2 x3 (1 : Int32) r8 x6 x7 M8 h
          · replace h := zite_t h hb10
            refine zblq Hy.1 Hy.2.1 [(.ldc 104, 3)] (S' := (104, [(0, .inr (.inr (some (1, 0)))), (1, .inl x1), (2, .inl x2), (3, .inl x3), (4, .inl x4), (5, .inl x5), (6, .inl x6), (7, .inl x7)], [], zfC M4)) (b := true) (by decide +kernel) rfl rfl ?_
            refine zGo_keep [0, 1, 2, 3, 4, 5, 6, 7] rfl ?_
            exact m1_aheadOfRoot_104_ok Hy hE ih x1 x2 x3 x4 x5 x6 x7 M4 h
        · replace h := zite_f h hb11
          refine zblq Hy.1 Hy.2.1 [(.ldc 104, 3)] (S' := (104, [(0, .inr (.inr (some (1, 0)))), (1, .inl x1), (2, .inl x2), (3, .inl x3), (4, .inl x4), (5, .inl x5), (6, .inl x6), (7, .inl x7)], [], zfC M3)) (b := true) (by decide +kernel) rfl rfl ?_
          refine zGo_keep [0, 1, 2, 3, 4, 5, 6, 7] rfl ?_
          exact m1_aheadOfRoot_104_ok Hy hE ih x1 x2 x3 x4 x5 x6 x7 M3 h
def m1_aheadOfRoot_14 (x1 : Int32) (x2 : Int32) (x3 : Int32) (x4 : Int32) (t0 : Int32) (M : cM) : Option (Int32 × cM) := zbd (m1_allTellers M) (fun r1 M1 => m1_aheadOfRoot_27 zfu x1 x2 x3 x4 t0 (r1 ^^^ (-1 : Int32)) (0 : Int32) M1)
theorem m1_aheadOfRoot_14_ok {X : zX} {G : zG} (Hy : zHy X G q1_aheadOfRoot zcC 4 93 (some .int)) {r : Int32} {M' : cM} (hE : zEnd X G (some (.inl r)) (zfC M')) (x1 : Int32) (x2 : Int32) (x3 : Int32) (x4 : Int32) (t0 : Int32) (M : cM) (h : m1_aheadOfRoot_14 x1 x2 x3 x4 t0 M = some (r, M')) : zGo (X, q1_aheadOfRoot, G) 0 0 (14, [(0, .inr (.inr (some (1, 0)))), (1, .inl x1), (2, .inl x2), (3, .inl x3), (4, .inl x4)], [.inl t0], zfC M) := by
  unfold m1_aheadOfRoot_14 at h
  refine zblq Hy.1 Hy.2.1 [(.istore 5, 2), (.aload 0, 1)] (S' := (17, [(0, .inr (.inr (some (1, 0)))), (1, .inl x1), (2, .inl x2), (3, .inl x3), (4, .inl x4), (5, .inl t0)], [.inr (.inr (some (1, 0)))], zfC M)) (b := true) (by decide +kernel) rfl rfl ?_
  obtain ⟨r1, M1, hc1, h⟩ := zbd_inv h
  refine zcallV Hy.1 (as := []) (st := []) (m1_allTellers_met (zOK_G Hy.1) Hy.2.1 hc1) cw1_44 m1_allTellers_in m1_allTellers_se (by decide) (zhlv Hy.2.1 rfl) rfl (zroom Hy.2.2 ⟨by decide, by decide⟩) rfl (by decide +kernel) ⟨Nat.zero_le _, Nat.zero_le _⟩ ?_
  refine zblq Hy.1 Hy.2.1 [(.iconst (-1), 1), (.ixor, 1), (.istore 6, 2), (.iconst 0, 1), (.istore 7, 2)] (S' := (27, [(0, .inr (.inr (some (1, 0)))), (1, .inl x1), (2, .inl x2), (3, .inl x3), (4, .inl x4), (5, .inl t0), (6, .inl (r1 ^^^ (-1 : Int32))), (7, .inl (0 : Int32))], [], zfC M1)) (b := true) (by decide +kernel) rfl rfl ?_
  refine zGo_keep [0, 1, 2, 3, 4, 5, 6, 7] rfl ?_
  exact m1_aheadOfRoot_27_ok Hy hE zfu x1 x2 x3 x4 t0 (r1 ^^^ (-1 : Int32)) (0 : Int32) M1 h
def m1_aheadOfRoot (x1 : Int32) (x2 : Int32) (x3 : Int32) (M : cM) : Option (Int32 × cM) := (if x3 = 0 then m1_aheadOfRoot_14 x1 x2 x3 (0 : Int32) (2147483647 : Int32) M else m1_aheadOfRoot_14 x1 x2 x3 (0 : Int32) (-2147483648 : Int32) M)
theorem m1_aheadOfRoot_ok {X : zX} {G : zG} (Hy : zHy X G q1_aheadOfRoot zcC 4 93 (some .int)) {r : Int32} {M' : cM} (hE : zEnd X G (some (.inl r)) (zfC M')) (x1 : Int32) (x2 : Int32) (x3 : Int32) (M : cM) (h : m1_aheadOfRoot x1 x2 x3 M = some (r, M')) : zGo (X, q1_aheadOfRoot, G) 0 0 (0, [(0, .inr (.inr (some (1, 0)))), (1, .inl x1), (2, .inl x2), (3, .inl x3)], [], zfC M) := by
  unfold m1_aheadOfRoot at h
  refine zblq Hy.1 Hy.2.1 [(.iconst 0, 1), (.istore 4, 2), (.iload 3, 1)] (S' := (4, [(0, .inr (.inr (some (1, 0)))), (1, .inl x1), (2, .inl x2), (3, .inl x3), (4, .inl (0 : Int32))], [.inl x3], zfC M)) (b := true) (by decide +kernel) rfl rfl ?_
  refine zif_eq Hy.1 (off := 8) (tgt := 12) (by decide +kernel) (by decide) (fun hb14 => ?_) (fun hb14 => ?_)
  · replace h := zite_t h hb14
    refine zblq Hy.1 Hy.2.1 [(.iconst 2147483647, 2)] (S' := (14, [(0, .inr (.inr (some (1, 0)))), (1, .inl x1), (2, .inl x2), (3, .inl x3), (4, .inl (0 : Int32))], [.inl (2147483647 : Int32)], zfC M)) (b := true) (by decide +kernel) rfl rfl ?_
    refine zGo_keep [0, 1, 2, 3, 4] rfl ?_
    exact m1_aheadOfRoot_14_ok Hy hE x1 x2 x3 (0 : Int32) (2147483647 : Int32) M h
  · replace h := zite_f h hb14
    refine zblq Hy.1 Hy.2.1 [(.iconst (-2147483648), 2), (.ldc 14, 3)] (S' := (14, [(0, .inr (.inr (some (1, 0)))), (1, .inl x1), (2, .inl x2), (3, .inl x3), (4, .inl (0 : Int32))], [.inl (-2147483648 : Int32)], zfC M)) (b := true) (by decide +kernel) rfl rfl ?_
    refine zGo_keep [0, 1, 2, 3, 4] rfl ?_
    exact m1_aheadOfRoot_14_ok Hy hE x1 x2 x3 (0 : Int32) (-2147483648 : Int32) M h
theorem m1_aheadOfRoot_met {l : Launch} {G : zG} (hG : zGok G) (hcn : zgcn G = zcC) {x1 : Int32} {x2 : Int32} {x3 : Int32} {M : cM} {r : Int32} {M' : cM} (h : m1_aheadOfRoot x1 x2 x3 M = some (r, M')) : zMet l G yX1_aheadOfRoot cX1_aheadOfRoot 8 (some .int) 4 93 [.inr (.inr (some (1, 0))), .inl x1, .inl x2, .inl x3] (zfC M) (some (.inl r)) (zfC M') :=
  zMet_of hG tbX1_ok rfl (by decide +kernel) (Nat.le_of_ble_eq_true rfl) (fun X _ Z hA hE => m1_aheadOfRoot_ok ⟨Z, hcn, hA⟩ hE x1 x2 x3 M h)
abbrev q11_hour : ByteArray × Nat × String × zT := (cX11_hour, 4, RX11, tbX11)
def m11_hour_29  (M : cM) : Option (Int32 × cM) := some ((-2147483648 : Int32), M)
theorem m11_hour_29_ok {X : zX} {G : zG} (Hy : zHy X G q11_hour zcC 5 120 (some .int)) {r : Int32} {M' : cM} (hE : zEnd X G (some (.inl r)) (zfC M'))  (M : cM) (h : m11_hour_29 M = some (r, M')) : zGo (X, q11_hour, G) 0 0 (29, [], [], zfC M) := by
  unfold m11_hour_29 at h
  refine zblq Hy.1 Hy.2.1 [(.iconst (-2147483648), 2)] (S' := (31, [], [.inl (-2147483648 : Int32)], zfC M)) (b := true) (by decide +kernel) rfl rfl ?_
  cases h
  exact zret_i Hy.1 Hy.2.2 hE (by decide +kernel)
def m11_hour_48 (t1 : Int32) (t2 : Int32) (t3 : Int32) (M : cM) : Option (Int32 × cM) := zbd (m1_aheadOfRoot t1 t2 t3 M) (fun r4 M4 => some (r4, M4))
theorem m11_hour_48_ok {X : zX} {G : zG} (Hy : zHy X G q11_hour zcC 5 120 (some .int)) {r : Int32} {M' : cM} (hE : zEnd X G (some (.inl r)) (zfC M')) (t1 : Int32) (t2 : Int32) (t3 : Int32) (M : cM) (h : m11_hour_48 t1 t2 t3 M = some (r, M')) : zGo (X, q11_hour, G) 0 0 (48, [], [.inl t3, .inl t2, .inl t1, .inr (.inr (some (1, 0)))], zfC M) := by
  unfold m11_hour_48 at h
  obtain ⟨r4, M4, hc4, h⟩ := zbd_inv h
  refine zcallV Hy.1 (as := [.inl t1, .inl t2, .inl t3]) (st := []) (m1_aheadOfRoot_met (zOK_G Hy.1) Hy.2.1 hc4) cw11_246 m1_aheadOfRoot_in m1_aheadOfRoot_se (by decide) (zhlv Hy.2.1 rfl) rfl (zroom Hy.2.2 ⟨by decide, by decide⟩) rfl (by decide +kernel) ⟨Nat.zero_le _, Nat.zero_le _⟩ ?_
  cases h
  exact zret_i Hy.1 Hy.2.2 hE (by decide +kernel)
def m11_hour (x1 : Int32) (x2 : Int32) (x3 : Int32) (M : cM) : Option (Int32 × cM) := zbd (m3_knows x1 M) (fun r1 M1 => (if r1 = 0 then m11_hour_29 M1 else zbd (m11_outside x2 (0 : Int32) (2 : Int32) M1) (fun r2 M2 => (if r2 = 0 then zbd (m11_outside x3 (0 : Int32) (1 : Int32) M2) (fun r3 M3 => (if r3 = 0 then (if x3 = (1 : Int32) then m11_hour_48 x1 x2 (1 : Int32) M3 else m11_hour_48 x1 x2 (0 : Int32) M3) else m11_hour_29 M3)) else m11_hour_29 M2))))
theorem m11_hour_ok {X : zX} {G : zG} (Hy : zHy X G q11_hour zcC 5 120 (some .int)) {r : Int32} {M' : cM} (hE : zEnd X G (some (.inl r)) (zfC M')) (x1 : Int32) (x2 : Int32) (x3 : Int32) (M : cM) (h : m11_hour x1 x2 x3 M = some (r, M')) : zGo (X, q11_hour, G) 0 0 (0, [(0, .inr (.inr (some (11, 0)))), (1, .inl x1), (2, .inl x2), (3, .inl x3)], [], zfC M) := by
  unfold m11_hour at h
  refine zblq Hy.1 Hy.2.1 [(.aload 0, 1), (.getfield 1100, 3), (.iload 1, 1)] (S' := (5, [(0, .inr (.inr (some (11, 0)))), (1, .inl x1), (2, .inl x2), (3, .inl x3)], [.inl x1, .inr (.inr (some (3, 0)))], zfC M)) (b := true) (by decide +kernel) rfl rfl ?_
  obtain ⟨r1, M1, hc1, h⟩ := zbd_inv h
  refine zcallV Hy.1 (as := [.inl x1]) (st := []) (m3_knows_met (zOK_G Hy.1) Hy.2.1 hc1) cw11_74 m3_knows_in m3_knows_se (by decide) (zhlv Hy.2.1 rfl) rfl (zroom Hy.2.2 ⟨by decide, by decide⟩) rfl (by decide +kernel) ⟨Nat.zero_le _, Nat.zero_le _⟩ ?_
  refine zif_eq Hy.1 (off := 21) (tgt := 29) (by decide +kernel) (by decide) (fun hb8 => ?_) (fun hb8 => ?_)
  · replace h := zite_t h hb8
    refine zGo_keep [] rfl ?_
    exact m11_hour_29_ok Hy hE M1 h
  · replace h := zite_f h hb8
    refine zblq Hy.1 Hy.2.1 [(.iload 2, 1), (.iconst 0, 1), (.iconst 2, 1)] (S' := (14, [(0, .inr (.inr (some (11, 0)))), (1, .inl x1), (2, .inl x2), (3, .inl x3)], [.inl (2 : Int32), .inl (0 : Int32), .inl x2], zfC M1)) (b := true) (by decide +kernel) rfl rfl ?_
    obtain ⟨r2, M2, hc2, h⟩ := zbd_inv h
    refine zcallS Hy.1 (as := [.inl x2, .inl (0 : Int32), .inl (2 : Int32)]) (st := []) (m11_outside_met (zOK_G Hy.1) Hy.2.1 hc2) cw11_66 m11_outside_in rfl (zroom Hy.2.2 ⟨by decide, by decide⟩) rfl (by decide +kernel) ⟨Nat.zero_le _, Nat.zero_le _⟩ ?_
    refine zif_ne Hy.1 (off := 12) (tgt := 29) (by decide +kernel) (by decide) (fun hb7 => ?_) (fun hb7 => ?_)
    · replace h := zite_f h hb7
      refine zGo_keep [] rfl ?_
      exact m11_hour_29_ok Hy hE M2 h
    · replace h := zite_t h hb7
      refine zblq Hy.1 Hy.2.1 [(.iload 3, 1), (.iconst 0, 1), (.iconst 1, 1)] (S' := (23, [(0, .inr (.inr (some (11, 0)))), (1, .inl x1), (2, .inl x2), (3, .inl x3)], [.inl (1 : Int32), .inl (0 : Int32), .inl x3], zfC M2)) (b := true) (by decide +kernel) rfl rfl ?_
      obtain ⟨r3, M3, hc3, h⟩ := zbd_inv h
      refine zcallS Hy.1 (as := [.inl x3, .inl (0 : Int32), .inl (1 : Int32)]) (st := []) (m11_outside_met (zOK_G Hy.1) Hy.2.1 hc3) cw11_66 m11_outside_in rfl (zroom Hy.2.2 ⟨by decide, by decide⟩) rfl (by decide +kernel) ⟨Nat.zero_le _, Nat.zero_le _⟩ ?_
      refine zif_eq Hy.1 (off := 6) (tgt := 32) (by decide +kernel) (by decide) (fun hb6 => ?_) (fun hb6 => ?_)
      · replace h := zite_t h hb6
        refine zblq Hy.1 Hy.2.1 [(.aload 0, 1), (.getfield 1104, 3), (.iload 1, 1), (.iload 2, 1), (.iload 3, 1), (.iconst 1, 1)] (S' := (40, [(0, .inr (.inr (some (11, 0)))), (1, .inl x1), (2, .inl x2), (3, .inl x3)], [.inl (1 : Int32), .inl x3, .inl x2, .inl x1, .inr (.inr (some (1, 0)))], zfC M3)) (b := true) (by decide +kernel) rfl rfl ?_
        refine zic_ne Hy.1 (off := 7) (tgt := 47) (by decide +kernel) (by decide) (fun hb5 => ?_) (fun hb5 => ?_)
        · replace h := zite_f h hb5
          refine zblq Hy.1 Hy.2.1 [(.iconst 0, 1)] (S' := (48, [(0, .inr (.inr (some (11, 0)))), (1, .inl x1), (2, .inl x2), (3, .inl x3)], [.inl (0 : Int32), .inl x2, .inl x1, .inr (.inr (some (1, 0)))], zfC M3)) (b := true) (by decide +kernel) rfl rfl ?_
          refine zGo_keep [] rfl ?_
          exact m11_hour_48_ok Hy hE x1 x2 (0 : Int32) M3 h
        · replace h := zite_t h hb5
          refine zblq Hy.1 Hy.2.1 [(.iconst 1, 1), (.ldc 48, 3)] (S' := (48, [(0, .inr (.inr (some (11, 0)))), (1, .inl x1), (2, .inl x2), (3, .inl x3)], [.inl (1 : Int32), .inl x2, .inl x1, .inr (.inr (some (1, 0)))], zfC M3)) (b := true) (by decide +kernel) rfl rfl ?_
          refine zGo_keep [] rfl ?_
          exact m11_hour_48_ok Hy hE x1 x2 (1 : Int32) M3 h
      · replace h := zite_f h hb6
        refine zGo_keep [] rfl ?_
        exact m11_hour_29_ok Hy hE M3 h
theorem m11_hour_met {l : Launch} {G : zG} (hG : zGok G) (hcn : zgcn G = zcC) {x1 : Int32} {x2 : Int32} {x3 : Int32} {M : cM} {r : Int32} {M' : cM} (h : m11_hour x1 x2 x3 M = some (r, M')) : zMet l G yX11_hour cX11_hour 4 (some .int) 5 120 [.inr (.inr (some (11, 0))), .inl x1, .inl x2, .inl x3] (zfC M) (some (.inl r)) (zfC M') :=
  zMet_of hG tbX11_ok rfl (by decide +kernel) (Nat.le_of_ble_eq_true rfl) (fun X _ Z hA hE => m11_hour_ok ⟨Z, hcn, hA⟩ hE x1 x2 x3 M h)
abbrev q11_place : ByteArray × Nat × String × zT := (cX11_place, 5, RX11, tbX11)
def m11_place (x1 : Int32) (x2 : Int32) (M : cM) : Option (Int32 × cM) := zbd (m3_knows x1 M) (fun r1 M1 => (if r1 = 0 then some ((-2 : Int32), M1) else zbd (m11_outside x2 (0 : Int32) (36 : Int32) M1) (fun r2 M2 => (if r2 = 0 then zbd (m3_of x1 M2) (fun r3 M3 => zgd (Nat.blt r3 10 && ((Nat.blt r3 10 && true) && true)) (some (cg M3 2 r3 11, cs M3 2 r3 11 x2))) else some ((-3 : Int32), M2)))))
theorem m11_place_ok {X : zX} {G : zG} (Hy : zHy X G q11_place zcC 1 22 (some .int)) {r : Int32} {M' : cM} (hE : zEnd X G (some (.inl r)) (zfC M')) (x1 : Int32) (x2 : Int32) (M : cM) (h : m11_place x1 x2 M = some (r, M')) : zGo (X, q11_place, G) 0 0 (0, [(0, .inr (.inr (some (11, 0)))), (1, .inl x1), (2, .inl x2)], [], zfC M) := by
  unfold m11_place at h
  refine zblq Hy.1 Hy.2.1 [(.aload 0, 1), (.getfield 1100, 3), (.iload 1, 1)] (S' := (5, [(0, .inr (.inr (some (11, 0)))), (1, .inl x1), (2, .inl x2)], [.inl x1, .inr (.inr (some (3, 0)))], zfC M)) (b := true) (by decide +kernel) rfl rfl ?_
  obtain ⟨r1, M1, hc1, h⟩ := zbd_inv h
  refine zcallV Hy.1 (as := [.inl x1]) (st := []) (m3_knows_met (zOK_G Hy.1) Hy.2.1 hc1) cw11_74 m3_knows_in m3_knows_se (by decide) (zhlv Hy.2.1 rfl) rfl (zroom Hy.2.2 ⟨by decide, by decide⟩) rfl (by decide +kernel) ⟨Nat.zero_le _, Nat.zero_le _⟩ ?_
  refine zif_ne Hy.1 (off := 6) (tgt := 14) (by decide +kernel) (by decide) (fun hb6 => ?_) (fun hb6 => ?_)
  · replace h := zite_f h hb6
    refine zblq Hy.1 Hy.2.1 [(.iload 2, 1), (.iconst 0, 1), (.iconst 36, 2)] (S' := (18, [(0, .inr (.inr (some (11, 0)))), (1, .inl x1), (2, .inl x2)], [.inl (36 : Int32), .inl (0 : Int32), .inl x2], zfC M1)) (b := true) (by decide +kernel) rfl rfl ?_
    obtain ⟨r2, M2, hc2, h⟩ := zbd_inv h
    refine zcallS Hy.1 (as := [.inl x2, .inl (0 : Int32), .inl (36 : Int32)]) (st := []) (m11_outside_met (zOK_G Hy.1) Hy.2.1 hc2) cw11_66 m11_outside_in rfl (zroom Hy.2.2 ⟨by decide, by decide⟩) rfl (by decide +kernel) ⟨Nat.zero_le _, Nat.zero_le _⟩ ?_
    refine zif_eq Hy.1 (off := 6) (tgt := 27) (by decide +kernel) (by decide) (fun hb5 => ?_) (fun hb5 => ?_)
    · replace h := zite_t h hb5
      refine zblq Hy.1 Hy.2.1 [(.aload 0, 1), (.getfield 1100, 3), (.iload 1, 1)] (S' := (32, [(0, .inr (.inr (some (11, 0)))), (1, .inl x1), (2, .inl x2)], [.inl x1, .inr (.inr (some (3, 0)))], zfC M2)) (b := true) (by decide +kernel) rfl rfl ?_
      obtain ⟨r3, M3, hc3, h⟩ := zbd_inv h
      refine zcallV Hy.1 (as := [.inl x1]) (st := []) (m3_of_met (zOK_G Hy.1) Hy.2.1 hc3) cw11_78 m3_of_in m3_of_se (by decide) (zhlv Hy.2.1 rfl) rfl (zroom Hy.2.2 ⟨by decide, by decide⟩) rfl (by decide +kernel) ⟨Nat.zero_le _, Nat.zero_le _⟩ ?_
      obtain ⟨hg4, h⟩ := zgd_inv h
      refine zblq Hy.1 Hy.2.1 [(.astore 3, 1), (.aload 3, 1), (.multianewarray 2 11, 3), (.istore 4, 2), (.aload 3, 1), (.iload 2, 1), (.invokeinterface 2 11, 3), (.iload 4, 2)] (S' := (49, [(0, .inr (.inr (some (11, 0)))), (1, .inl x1), (2, .inl x2), (3, .inr (.inr (some (2, r3)))), (4, .inl (cg M3 2 r3 11))], [.inl (cg M3 2 r3 11)], zfC (cs M3 2 r3 11 x2))) (b := Nat.blt r3 10 && ((Nat.blt r3 10 && true) && true)) (by decide +kernel) rfl hg4 ?_
      cases h
      exact zret_i Hy.1 Hy.2.2 hE (by decide +kernel)
    · replace h := zite_f h hb5
      refine zblq Hy.1 Hy.2.1 [(.iconst (-3), 2)] (S' := (26, [(0, .inr (.inr (some (11, 0)))), (1, .inl x1), (2, .inl x2)], [.inl (-3 : Int32)], zfC M2)) (b := true) (by decide +kernel) rfl rfl ?_
      cases h
      exact zret_i Hy.1 Hy.2.2 hE (by decide +kernel)
  · replace h := zite_t h hb6
    refine zblq Hy.1 Hy.2.1 [(.iconst (-2), 2)] (S' := (13, [(0, .inr (.inr (some (11, 0)))), (1, .inl x1), (2, .inl x2)], [.inl (-2 : Int32)], zfC M1)) (b := true) (by decide +kernel) rfl rfl ?_
    cases h
    exact zret_i Hy.1 Hy.2.2 hE (by decide +kernel)
theorem m11_place_met {l : Launch} {G : zG} (hG : zGok G) (hcn : zgcn G = zcC) {x1 : Int32} {x2 : Int32} {M : cM} {r : Int32} {M' : cM} (h : m11_place x1 x2 M = some (r, M')) : zMet l G yX11_place cX11_place 5 (some .int) 1 22 [.inr (.inr (some (11, 0))), .inl x1, .inl x2] (zfC M) (some (.inl r)) (zfC M') :=
  zMet_of hG tbX11_ok rfl (by decide +kernel) (Nat.le_of_ble_eq_true rfl) (fun X _ Z hA hE => m11_place_ok ⟨Z, hcn, hA⟩ hE x1 x2 M h)
abbrev q1_isInReach : ByteArray × Nat × String × zT := (cX1_isInReach, 6, RX1, tbX1)
def m1_isInReach (x1 : Int32) (x2 : Int32) (M : cM) : Option (Int32 × cM) := zgd (znz (6 : Int32) && (znz (6 : Int32) && (znz (6 : Int32) && (znz (6 : Int32) && true)))) (zbd (m3_setting (5 : Int32) M) (fun r2 M2 => (if (r2 * r2) < ((((zrem x1 (6 : Int32)) - (zrem x2 (6 : Int32))) * ((zrem x1 (6 : Int32)) - (zrem x2 (6 : Int32)))) + (((x1 / (6 : Int32)) - (x2 / (6 : Int32))) * ((x1 / (6 : Int32)) - (x2 / (6 : Int32))))) then some ((0 : Int32), M2) else some ((1 : Int32), M2))))
theorem m1_isInReach_ok {X : zX} {G : zG} (Hy : zHy X G q1_isInReach zcC 1 21 (some .boolean)) {r : Int32} {M' : cM} (hE : zEnd X G (some (.inl r)) (zfC M')) (x1 : Int32) (x2 : Int32) (M : cM) (h : m1_isInReach x1 x2 M = some (r, M')) : zGo (X, q1_isInReach, G) 0 0 (0, [(0, .inr (.inr (some (1, 0)))), (1, .inl x1), (2, .inl x2)], [], zfC M) := by
  unfold m1_isInReach at h
  obtain ⟨hg1, h⟩ := zgd_inv h
  refine zblq Hy.1 Hy.2.1 [(.iload 1, 1), (.iconst 6, 2), (.irem, 1), (.iload 2, 1), (.iconst 6, 2), (.irem, 1), (.isub, 1), (.istore 3, 1), (.iload 1, 1), (.iconst 6, 2), (.idiv, 1), (.iload 2, 1), (.iconst 6, 2), (.idiv, 1), (.isub, 1), (.istore 4, 2), (.aload 0, 1), (.getfield 100, 3), (.iconst 5, 1)] (S' := (26, [(0, .inr (.inr (some (1, 0)))), (1, .inl x1), (2, .inl x2), (3, .inl ((zrem x1 (6 : Int32)) - (zrem x2 (6 : Int32)))), (4, .inl ((x1 / (6 : Int32)) - (x2 / (6 : Int32))))], [.inl (5 : Int32), .inr (.inr (some (3, 0)))], zfC M)) (b := znz (6 : Int32) && (znz (6 : Int32) && (znz (6 : Int32) && (znz (6 : Int32) && true)))) (by decide +kernel) rfl hg1 ?_
  obtain ⟨r2, M2, hc2, h⟩ := zbd_inv h
  refine zcallV Hy.1 (as := [.inl (5 : Int32)]) (st := []) (m3_setting_met (zOK_G Hy.1) Hy.2.1 hc2) cw1_108 m3_setting_in m3_setting_se (by decide) (zhlv Hy.2.1 rfl) rfl (zroom Hy.2.2 ⟨by decide, by decide⟩) rfl (by decide +kernel) ⟨Nat.zero_le _, Nat.zero_le _⟩ ?_
  refine zblq Hy.1 Hy.2.1 [(.istore 5, 2), (.iload 3, 1), (.iload 3, 1), (.imul, 1), (.iload 4, 2), (.iload 4, 2), (.imul, 1), (.iadd, 1), (.iload 5, 2), (.iload 5, 2), (.imul, 1)] (S' := (45, [(0, .inr (.inr (some (1, 0)))), (1, .inl x1), (2, .inl x2), (3, .inl ((zrem x1 (6 : Int32)) - (zrem x2 (6 : Int32)))), (4, .inl ((x1 / (6 : Int32)) - (x2 / (6 : Int32)))), (5, .inl r2)], [.inl (r2 * r2), .inl ((((zrem x1 (6 : Int32)) - (zrem x2 (6 : Int32))) * ((zrem x1 (6 : Int32)) - (zrem x2 (6 : Int32)))) + (((x1 / (6 : Int32)) - (x2 / (6 : Int32))) * ((x1 / (6 : Int32)) - (x2 / (6 : Int32)))))], zfC M2)) (b := true) (by decide +kernel) rfl rfl ?_
  refine zic_gt Hy.1 (off := 7) (tgt := 52) (by decide +kernel) (by decide) (fun hb3 => ?_) (fun hb3 => ?_)
  · replace h := zite_t h hb3
    refine zblq Hy.1 Hy.2.1 [(.iconst 0, 1)] (S' := (53, [(0, .inr (.inr (some (1, 0)))), (1, .inl x1), (2, .inl x2), (3, .inl ((zrem x1 (6 : Int32)) - (zrem x2 (6 : Int32)))), (4, .inl ((x1 / (6 : Int32)) - (x2 / (6 : Int32)))), (5, .inl r2)], [.inl (0 : Int32)], zfC M2)) (b := true) (by decide +kernel) rfl rfl ?_
    cases h
    exact zret_z Hy.1 Hy.2.2 (by decide) hE (by decide +kernel)
  · replace h := zite_f h hb3
    refine zblq Hy.1 Hy.2.1 [(.iconst 1, 1), (.ldc 53, 3)] (S' := (53, [(0, .inr (.inr (some (1, 0)))), (1, .inl x1), (2, .inl x2), (3, .inl ((zrem x1 (6 : Int32)) - (zrem x2 (6 : Int32)))), (4, .inl ((x1 / (6 : Int32)) - (x2 / (6 : Int32)))), (5, .inl r2)], [.inl (1 : Int32)], zfC M2)) (b := true) (by decide +kernel) rfl rfl ?_
    cases h
    exact zret_z Hy.1 Hy.2.2 (by decide) hE (by decide +kernel)
theorem m1_isInReach_met {l : Launch} {G : zG} (hG : zGok G) (hcn : zgcn G = zcC) {x1 : Int32} {x2 : Int32} {M : cM} {r : Int32} {M' : cM} (h : m1_isInReach x1 x2 M = some (r, M')) : zMet l G yX1_isInReach cX1_isInReach 6 (some .boolean) 1 21 [.inr (.inr (some (1, 0))), .inl x1, .inl x2] (zfC M) (some (.inl r)) (zfC M') :=
  zMet_of hG tbX1_ok rfl (by decide +kernel) (Nat.le_of_ble_eq_true rfl) (fun X _ Z hA hE => m1_isInReach_ok ⟨Z, hcn, hA⟩ hE x1 x2 M h)
abbrev q1_disagreeing : ByteArray × Nat × String × zT := (cX1_disagreeing, 8, RX1, tbX1)
def m1_disagreeing_100 (k15 : Int32 → Int32 → Nat → Int32 → Int32 → cM → Option (Int32 × cM)) (x1 : Int32) (x2 : Int32) (i3 : Nat) (x4 : Int32) (x5 : Int32) (M : cM) : Option (Int32 × cM) := k15 x1 x2 i3 x4 (x5 + (1 : Int32)) M
theorem m1_disagreeing_100_ok {X : zX} {G : zG} (Hy : zHy X G q1_disagreeing zcC 2 46 (some .int)) {r : Int32} {M' : cM} (hE : zEnd X G (some (.inl r)) (zfC M')) {k15 : Int32 → Int32 → Nat → Int32 → Int32 → cM → Option (Int32 × cM)} (hk15 : ∀ (x1 : Int32) (x2 : Int32) (i3 : Nat) (x4 : Int32) (x5 : Int32) (M : cM), k15 x1 x2 i3 x4 x5 M = some (r, M') → zGo (X, q1_disagreeing, G) 0 0 (15, [(0, .inr (.inr (some (1, 0)))), (1, .inl x1), (2, .inl x2), (3, .inr (.inr (some (2, i3)))), (4, .inl x4), (5, .inl x5)], [], zfC M)) (x1 : Int32) (x2 : Int32) (i3 : Nat) (x4 : Int32) (x5 : Int32) (M : cM) (h : m1_disagreeing_100 k15 x1 x2 i3 x4 x5 M = some (r, M')) : zGo (X, q1_disagreeing, G) 0 0 (100, [(0, .inr (.inr (some (1, 0)))), (1, .inl x1), (2, .inl x2), (3, .inr (.inr (some (2, i3)))), (4, .inl x4), (5, .inl x5)], [], zfC M) := by
  unfold m1_disagreeing_100 at h
  refine zblq Hy.1 Hy.2.1 [(.iinc 5 1, 3), (.ldc 15, 3)] (S' := (15, [(0, .inr (.inr (some (1, 0)))), (1, .inl x1), (2, .inl x2), (3, .inr (.inr (some (2, i3)))), (4, .inl x4), (5, .inl (x5 + (1 : Int32)))], [], zfC M)) (b := true) (by decide +kernel) rfl rfl ?_
  refine zGo_keep [0, 1, 2, 3, 4, 5] rfl ?_
  exact hk15 x1 x2 i3 x4 (x5 + (1 : Int32)) M h
def m1_disagreeing_80 (k15 : Int32 → Int32 → Nat → Int32 → Int32 → cM → Option (Int32 × cM)) (x1 : Int32) (x2 : Int32) (i3 : Nat) (x4 : Int32) (x5 : Int32) (i6 : Nat) (t0 : Int32) (M : cM) : Option (Int32 × cM) := zgd (Nat.blt i6 10 && true) (zbd (m1_isInReach x2 (cg M 2 i6 11) M) (fun r7 M7 => (if t0 = r7 then m1_disagreeing_100 k15 x1 x2 i3 x4 x5 M7 else m1_disagreeing_100 k15 x1 x2 i3 (x4 + (1 : Int32)) x5 M7)))
theorem m1_disagreeing_80_ok {X : zX} {G : zG} (Hy : zHy X G q1_disagreeing zcC 2 46 (some .int)) {r : Int32} {M' : cM} (hE : zEnd X G (some (.inl r)) (zfC M')) {k15 : Int32 → Int32 → Nat → Int32 → Int32 → cM → Option (Int32 × cM)} (hk15 : ∀ (x1 : Int32) (x2 : Int32) (i3 : Nat) (x4 : Int32) (x5 : Int32) (M : cM), k15 x1 x2 i3 x4 x5 M = some (r, M') → zGo (X, q1_disagreeing, G) 0 0 (15, [(0, .inr (.inr (some (1, 0)))), (1, .inl x1), (2, .inl x2), (3, .inr (.inr (some (2, i3)))), (4, .inl x4), (5, .inl x5)], [], zfC M)) (x1 : Int32) (x2 : Int32) (i3 : Nat) (x4 : Int32) (x5 : Int32) (i6 : Nat) (t0 : Int32) (M : cM) (h : m1_disagreeing_80 k15 x1 x2 i3 x4 x5 i6 t0 M = some (r, M')) : zGo (X, q1_disagreeing, G) 0 0 (80, [(0, .inr (.inr (some (1, 0)))), (1, .inl x1), (2, .inl x2), (3, .inr (.inr (some (2, i3)))), (4, .inl x4), (5, .inl x5), (6, .inr (.inr (some (2, i6))))], [.inl t0], zfC M) := by
  unfold m1_disagreeing_80 at h
  obtain ⟨hg6, h⟩ := zgd_inv h
  refine zblq Hy.1 Hy.2.1 [(.istore 7, 2), (.iload 7, 2), (.aload 0, 1), (.iload 2, 1), (.aload 6, 2), (.multianewarray 2 11, 3)] (S' := (91, [(0, .inr (.inr (some (1, 0)))), (1, .inl x1), (2, .inl x2), (3, .inr (.inr (some (2, i3)))), (4, .inl x4), (5, .inl x5), (6, .inr (.inr (some (2, i6)))), (7, .inl t0)], [.inl (cg M 2 i6 11), .inl x2, .inr (.inr (some (1, 0))), .inl t0], zfC M)) (b := Nat.blt i6 10 && true) (by decide +kernel) rfl hg6 ?_
  obtain ⟨r7, M7, hc7, h⟩ := zbd_inv h
  refine zcallV Hy.1 (as := [.inl x2, .inl (cg M 2 i6 11)]) (st := [.inl t0]) (m1_isInReach_met (zOK_G Hy.1) Hy.2.1 hc7) cw1_104 m1_isInReach_in m1_isInReach_se (by decide) (zhlv Hy.2.1 rfl) rfl (zroom Hy.2.2 ⟨by decide, by decide⟩) rfl (by decide +kernel) ⟨Nat.zero_le _, Nat.zero_le _⟩ ?_
  refine zic_eq Hy.1 (off := 6) (tgt := 100) (by decide +kernel) (by decide) (fun hb8 => ?_) (fun hb8 => ?_)
  · replace h := zite_t h hb8
    refine zGo_keep [0, 1, 2, 3, 4, 5] rfl ?_
    exact m1_disagreeing_100_ok Hy hE hk15 x1 x2 i3 x4 x5 M7 h
  · replace h := zite_f h hb8
    refine zblq Hy.1 Hy.2.1 [(.iinc 4 1, 3)] (S' := (100, [(0, .inr (.inr (some (1, 0)))), (1, .inl x1), (2, .inl x2), (3, .inr (.inr (some (2, i3)))), (4, .inl (x4 + (1 : Int32))), (5, .inl x5), (6, .inr (.inr (some (2, i6)))), (7, .inl t0)], [], zfC M7)) (b := true) (by decide +kernel) rfl rfl ?_
    refine zGo_keep [0, 1, 2, 3, 4, 5] rfl ?_
    exact m1_disagreeing_100_ok Hy hE hk15 x1 x2 i3 (x4 + (1 : Int32)) x5 M7 h
def m1_disagreeing_15 : Nat → Int32 → Int32 → Nat → Int32 → Int32 → cM → Option (Int32 × cM)
  | 0, _, _, _, _, _, _ => none
  | n + 1, x1, x2, i3, x4, x5, M => (if (cg M 3 0 4) ≤ x5 then some (x4, M) else zbd (m3_of x5 M) (fun r2 M2 => (if x5 = x1 then m1_disagreeing_100 (m1_disagreeing_15 n) x1 x2 i3 x4 x5 M2 else zgd (Nat.blt r2 10 && true) ((if (cg M2 2 r2 11) = (36 : Int32) then m1_disagreeing_100 (m1_disagreeing_15 n) x1 x2 i3 x4 x5 M2 else zgd (Nat.blt i3 10) (zbd (m2_hearsBox i3 x5 M2) (fun r4 M4 => (if r4 = 0 then zgd (Nat.blt r2 10) (zbd (m2_hearsBox r2 x1 M4) (fun r9 M9 => (if r9 = 0 then m1_disagreeing_80 (m1_disagreeing_15 n) x1 x2 i3 x4 x5 r2 (0 : Int32) M9 else m1_disagreeing_80 (m1_disagreeing_15 n) x1 x2 i3 x4 x5 r2 (1 : Int32) M9))) else m1_disagreeing_80 (m1_disagreeing_15 n) x1 x2 i3 x4 x5 r2 (1 : Int32) M4))))))))
theorem m1_disagreeing_15_ok {X : zX} {G : zG} (Hy : zHy X G q1_disagreeing zcC 2 46 (some .int)) {r : Int32} {M' : cM} (hE : zEnd X G (some (.inl r)) (zfC M')) : ∀ (n : Nat) (x1 : Int32) (x2 : Int32) (i3 : Nat) (x4 : Int32) (x5 : Int32) (M : cM), m1_disagreeing_15 n x1 x2 i3 x4 x5 M = some (r, M') → zGo (X, q1_disagreeing, G) 0 0 (15, [(0, .inr (.inr (some (1, 0)))), (1, .inl x1), (2, .inl x2), (3, .inr (.inr (some (2, i3)))), (4, .inl x4), (5, .inl x5)], [], zfC M) := by
  intro n
  induction n with
  | zero => intro x1 x2 i3 x4 x5 M h; cases h
  | succ n ih =>
    intro x1 x2 i3 x4 x5 M h
    unfold m1_disagreeing_15 at h
    refine zblq Hy.1 Hy.2.1 [(.iload 5, 2), (.aload 0, 1), (.getfield 100, 3), (.multianewarray 3 4, 3)] (S' := (24, [(0, .inr (.inr (some (1, 0)))), (1, .inl x1), (2, .inl x2), (3, .inr (.inr (some (2, i3)))), (4, .inl x4), (5, .inl x5)], [.inl (cg M 3 0 4), .inl x5], zfC M)) (b := true) (by decide +kernel) rfl rfl ?_
    refine zic_ge Hy.1 (off := 82) (tgt := 106) (by decide +kernel) (by decide) (fun hb15 => ?_) (fun hb15 => ?_)
    · replace h := zite_t h hb15
      refine zblq Hy.1 Hy.2.1 [(.iload 4, 2)] (S' := (108, [(0, .inr (.inr (some (1, 0)))), (1, .inl x1), (2, .inl x2), (3, .inr (.inr (some (2, i3)))), (4, .inl x4), (5, .inl x5)], [.inl x4], zfC M)) (b := true) (by decide +kernel) rfl rfl ?_
      cases h
      exact zret_i Hy.1 Hy.2.2 hE (by decide +kernel)
    · replace h := zite_f h hb15
      refine zblq Hy.1 Hy.2.1 [(.aload 0, 1), (.getfield 100, 3), (.iload 5, 2)] (S' := (33, [(0, .inr (.inr (some (1, 0)))), (1, .inl x1), (2, .inl x2), (3, .inr (.inr (some (2, i3)))), (4, .inl x4), (5, .inl x5)], [.inl x5, .inr (.inr (some (3, 0)))], zfC M)) (b := true) (by decide +kernel) rfl rfl ?_
      obtain ⟨r2, M2, hc2, h⟩ := zbd_inv h
      refine zcallV Hy.1 (as := [.inl x5]) (st := []) (m3_of_met (zOK_G Hy.1) Hy.2.1 hc2) cw1_94 m3_of_in m3_of_se (by decide) (zhlv Hy.2.1 rfl) rfl (zroom Hy.2.2 ⟨by decide, by decide⟩) rfl (by decide +kernel) ⟨Nat.zero_le _, Nat.zero_le _⟩ ?_
      refine zblq Hy.1 Hy.2.1 [(.astore 6, 2), (.iload 5, 2), (.iload 1, 1)] (S' := (41, [(0, .inr (.inr (some (1, 0)))), (1, .inl x1), (2, .inl x2), (3, .inr (.inr (some (2, i3)))), (4, .inl x4), (5, .inl x5), (6, .inr (.inr (some (2, r2))))], [.inl x1, .inl x5], zfC M2)) (b := true) (by decide +kernel) rfl rfl ?_
      refine zic_eq Hy.1 (off := 59) (tgt := 100) (by decide +kernel) (by decide) (fun hb14 => ?_) (fun hb14 => ?_)
      · replace h := zite_t h hb14
        refine zGo_keep [0, 1, 2, 3, 4, 5] rfl ?_
        exact m1_disagreeing_100_ok Hy hE ih x1 x2 i3 x4 x5 M2 h
      · replace h := zite_f h hb14
        obtain ⟨hg3, h⟩ := zgd_inv h
        refine zblq Hy.1 Hy.2.1 [(.aload 6, 2), (.multianewarray 2 11, 3), (.iconst 36, 2)] (S' := (51, [(0, .inr (.inr (some (1, 0)))), (1, .inl x1), (2, .inl x2), (3, .inr (.inr (some (2, i3)))), (4, .inl x4), (5, .inl x5), (6, .inr (.inr (some (2, r2))))], [.inl (36 : Int32), .inl (cg M2 2 r2 11)], zfC M2)) (b := Nat.blt r2 10 && true) (by decide +kernel) rfl hg3 ?_
        refine zic_ne Hy.1 (off := 6) (tgt := 57) (by decide +kernel) (by decide) (fun hb13 => ?_) (fun hb13 => ?_)
        · replace h := zite_f h hb13
          refine zblq Hy.1 Hy.2.1 [(.aload 3, 1), (.iload 5, 2)] (S' := (60, [(0, .inr (.inr (some (1, 0)))), (1, .inl x1), (2, .inl x2), (3, .inr (.inr (some (2, i3)))), (4, .inl x4), (5, .inl x5), (6, .inr (.inr (some (2, r2))))], [.inl x5, .inr (.inr (some (2, i3)))], zfC M2)) (b := true) (by decide +kernel) rfl rfl ?_
          obtain ⟨hg5, h⟩ := zgd_inv h
          obtain ⟨r4, M4, hc4, h⟩ := zbd_inv h
          refine zcallV Hy.1 (as := [.inl x5]) (st := []) (m2_hearsBox_met (zOK_G Hy.1) Hy.2.1 hc4) cw1_101 m2_hearsBox_in m2_hearsBox_se (by decide) (zhlv Hy.2.1 hg5) rfl (zroom Hy.2.2 ⟨by decide, by decide⟩) rfl (by decide +kernel) ⟨Nat.zero_le _, Nat.zero_le _⟩ ?_
          refine zif_ne Hy.1 (off := 12) (tgt := 75) (by decide +kernel) (by decide) (fun hb12 => ?_) (fun hb12 => ?_)
          · replace h := zite_f h hb12
            refine zblq Hy.1 Hy.2.1 [(.iconst 1, 1), (.ldc 80, 3)] (S' := (80, [(0, .inr (.inr (some (1, 0)))), (1, .inl x1), (2, .inl x2), (3, .inr (.inr (some (2, i3)))), (4, .inl x4), (5, .inl x5), (6, .inr (.inr (some (2, r2))))], [.inl (1 : Int32)], zfC M4)) (b := true) (by decide +kernel) rfl rfl ?_
            refine zGo_keep [0, 1, 2, 3, 4, 5, 6] rfl ?_
            exact m1_disagreeing_80_ok Hy hE ih x1 x2 i3 x4 x5 r2 (1 : Int32) M4 h
          · replace h := zite_t h hb12
            refine zblq Hy.1 Hy.2.1 [(.aload 6, 2), (.iload 1, 1)] (S' := (69, [(0, .inr (.inr (some (1, 0)))), (1, .inl x1), (2, .inl x2), (3, .inr (.inr (some (2, i3)))), (4, .inl x4), (5, .inl x5), (6, .inr (.inr (some (2, r2))))], [.inl x1, .inr (.inr (some (2, r2)))], zfC M4)) (b := true) (by decide +kernel) rfl rfl ?_
            obtain ⟨hg10, h⟩ := zgd_inv h
            obtain ⟨r9, M9, hc9, h⟩ := zbd_inv h
            refine zcallV Hy.1 (as := [.inl x1]) (st := []) (m2_hearsBox_met (zOK_G Hy.1) Hy.2.1 hc9) cw1_101 m2_hearsBox_in m2_hearsBox_se (by decide) (zhlv Hy.2.1 hg10) rfl (zroom Hy.2.2 ⟨by decide, by decide⟩) rfl (by decide +kernel) ⟨Nat.zero_le _, Nat.zero_le _⟩ ?_
            refine zif_eq Hy.1 (off := 7) (tgt := 79) (by decide +kernel) (by decide) (fun hb11 => ?_) (fun hb11 => ?_)
            · replace h := zite_t h hb11
              refine zblq Hy.1 Hy.2.1 [(.iconst 0, 1)] (S' := (80, [(0, .inr (.inr (some (1, 0)))), (1, .inl x1), (2, .inl x2), (3, .inr (.inr (some (2, i3)))), (4, .inl x4), (5, .inl x5), (6, .inr (.inr (some (2, r2))))], [.inl (0 : Int32)], zfC M9)) (b := true) (by decide +kernel) rfl rfl ?_
              refine zGo_keep [0, 1, 2, 3, 4, 5, 6] rfl ?_
              exact m1_disagreeing_80_ok Hy hE ih x1 x2 i3 x4 x5 r2 (0 : Int32) M9 h
            · replace h := zite_f h hb11
              refine zblq Hy.1 Hy.2.1 [(.iconst 1, 1), (.ldc 80, 3)] (S' := (80, [(0, .inr (.inr (some (1, 0)))), (1, .inl x1), (2, .inl x2), (3, .inr (.inr (some (2, i3)))), (4, .inl x4), (5, .inl x5), (6, .inr (.inr (some (2, r2))))], [.inl (1 : Int32)], zfC M9)) (b := true) (by decide +kernel) rfl rfl ?_
              refine zGo_keep [0, 1, 2, 3, 4, 5, 6] rfl ?_
              exact m1_disagreeing_80_ok Hy hE ih x1 x2 i3 x4 x5 r2 (1 : Int32) M9 h
        · replace h := zite_t h hb13
          refine zblq Hy.1 Hy.2.1 [(.ldc 100, 3)] (S' := (100, [(0, .inr (.inr (some (1, 0)))), (1, .inl x1), (2, .inl x2), (3, .inr (.inr (some (2, i3)))), (4, .inl x4), (5, .inl x5), (6, .inr (.inr (some (2, r2))))], [], zfC M2)) (b := true) (by decide +kernel) rfl rfl ?_
          refine zGo_keep [0, 1, 2, 3, 4, 5] rfl ?_
          exact m1_disagreeing_100_ok Hy hE ih x1 x2 i3 x4 x5 M2 h
def m1_disagreeing (x1 : Int32) (x2 : Int32) (M : cM) : Option (Int32 × cM) := zbd (m3_of x1 M) (fun r1 M1 => m1_disagreeing_15 zfu x1 x2 r1 (0 : Int32) (0 : Int32) M1)
theorem m1_disagreeing_ok {X : zX} {G : zG} (Hy : zHy X G q1_disagreeing zcC 2 46 (some .int)) {r : Int32} {M' : cM} (hE : zEnd X G (some (.inl r)) (zfC M')) (x1 : Int32) (x2 : Int32) (M : cM) (h : m1_disagreeing x1 x2 M = some (r, M')) : zGo (X, q1_disagreeing, G) 0 0 (0, [(0, .inr (.inr (some (1, 0)))), (1, .inl x1), (2, .inl x2)], [], zfC M) := by
  unfold m1_disagreeing at h
  refine zblq Hy.1 Hy.2.1 [(.aload 0, 1), (.getfield 100, 3), (.iload 1, 1)] (S' := (5, [(0, .inr (.inr (some (1, 0)))), (1, .inl x1), (2, .inl x2)], [.inl x1, .inr (.inr (some (3, 0)))], zfC M)) (b := true) (by decide +kernel) rfl rfl ?_
  obtain ⟨r1, M1, hc1, h⟩ := zbd_inv h
  refine zcallV Hy.1 (as := [.inl x1]) (st := []) (m3_of_met (zOK_G Hy.1) Hy.2.1 hc1) cw1_94 m3_of_in m3_of_se (by decide) (zhlv Hy.2.1 rfl) rfl (zroom Hy.2.2 ⟨by decide, by decide⟩) rfl (by decide +kernel) ⟨Nat.zero_le _, Nat.zero_le _⟩ ?_
  refine zblq Hy.1 Hy.2.1 [(.astore 3, 1), (.iconst 0, 1), (.istore 4, 2), (.iconst 0, 1), (.istore 5, 2)] (S' := (15, [(0, .inr (.inr (some (1, 0)))), (1, .inl x1), (2, .inl x2), (3, .inr (.inr (some (2, r1)))), (4, .inl (0 : Int32)), (5, .inl (0 : Int32))], [], zfC M1)) (b := true) (by decide +kernel) rfl rfl ?_
  refine zGo_keep [0, 1, 2, 3, 4, 5] rfl ?_
  exact m1_disagreeing_15_ok Hy hE zfu x1 x2 r1 (0 : Int32) (0 : Int32) M1 h
theorem m1_disagreeing_met {l : Launch} {G : zG} (hG : zGok G) (hcn : zgcn G = zcC) {x1 : Int32} {x2 : Int32} {M : cM} {r : Int32} {M' : cM} (h : m1_disagreeing x1 x2 M = some (r, M')) : zMet l G yX1_disagreeing cX1_disagreeing 8 (some .int) 2 46 [.inr (.inr (some (1, 0))), .inl x1, .inl x2] (zfC M) (some (.inl r)) (zfC M') :=
  zMet_of hG tbX1_ok rfl (by decide +kernel) (Nat.le_of_ble_eq_true rfl) (fun X _ Z hA hE => m1_disagreeing_ok ⟨Z, hcn, hA⟩ hE x1 x2 M h)
abbrev q1_mayBe : ByteArray × Nat × String × zT := (cX1_mayBe, 6, RX1, tbX1)
def m1_mayBe_30 (k5 : Int32 → Int32 → Int64 → Int32 → cM → Option (Int64 × cM)) (x1 : Int32) (x2 : Int32) (x3 : Int64) (x5 : Int32) (M : cM) : Option (Int64 × cM) := k5 x1 x2 x3 (x5 + (1 : Int32)) M
theorem m1_mayBe_30_ok {X : zX} {G : zG} (Hy : zHy X G q1_mayBe zcC 3 73 (some .long)) {r : Int64} {M' : cM} (hE : zEnd X G (some (.inr (.inl r))) (zfC M')) {k5 : Int32 → Int32 → Int64 → Int32 → cM → Option (Int64 × cM)} (hk5 : ∀ (x1 : Int32) (x2 : Int32) (x3 : Int64) (x5 : Int32) (M : cM), k5 x1 x2 x3 x5 M = some (r, M') → zGo (X, q1_mayBe, G) 0 0 (5, [(0, .inr (.inr (some (1, 0)))), (1, .inl x1), (2, .inl x2), (3, .inr (.inl x3)), (5, .inl x5)], [], zfC M)) (x1 : Int32) (x2 : Int32) (x3 : Int64) (x5 : Int32) (M : cM) (h : m1_mayBe_30 k5 x1 x2 x3 x5 M = some (r, M')) : zGo (X, q1_mayBe, G) 0 0 (30, [(0, .inr (.inr (some (1, 0)))), (1, .inl x1), (2, .inl x2), (3, .inr (.inl x3)), (5, .inl x5)], [], zfC M) := by
  unfold m1_mayBe_30 at h
  refine zblq Hy.1 Hy.2.1 [(.iinc 5 1, 3), (.ldc 5, 3)] (S' := (5, [(0, .inr (.inr (some (1, 0)))), (1, .inl x1), (2, .inl x2), (3, .inr (.inl x3)), (5, .inl (x5 + (1 : Int32)))], [], zfC M)) (b := true) (by decide +kernel) rfl rfl ?_
  refine zGo_keep [0, 1, 2, 3, 5] rfl ?_
  exact hk5 x1 x2 x3 (x5 + (1 : Int32)) M h
def m1_mayBe_5 : Nat → Int32 → Int32 → Int64 → Int32 → cM → Option (Int64 × cM)
  | 0, _, _, _, _, _ => none
  | n + 1, x1, x2, x3, x5, M => (if (36 : Int32) ≤ x5 then some (x3, M) else zbd (m1_disagreeing x1 x5 M) (fun r1 M1 => (if x2 < r1 then m1_mayBe_30 (m1_mayBe_5 n) x1 x2 x3 x5 M1 else m1_mayBe_30 (m1_mayBe_5 n) x1 x2 (x3 ||| (zshlL (1 : Int64) x5)) x5 M1)))
theorem m1_mayBe_5_ok {X : zX} {G : zG} (Hy : zHy X G q1_mayBe zcC 3 73 (some .long)) {r : Int64} {M' : cM} (hE : zEnd X G (some (.inr (.inl r))) (zfC M')) : ∀ (n : Nat) (x1 : Int32) (x2 : Int32) (x3 : Int64) (x5 : Int32) (M : cM), m1_mayBe_5 n x1 x2 x3 x5 M = some (r, M') → zGo (X, q1_mayBe, G) 0 0 (5, [(0, .inr (.inr (some (1, 0)))), (1, .inl x1), (2, .inl x2), (3, .inr (.inl x3)), (5, .inl x5)], [], zfC M) := by
  intro n
  induction n with
  | zero => intro x1 x2 x3 x5 M h; cases h
  | succ n ih =>
    intro x1 x2 x3 x5 M h
    unfold m1_mayBe_5 at h
    refine zblq Hy.1 Hy.2.1 [(.iload 5, 2), (.iconst 36, 2)] (S' := (9, [(0, .inr (.inr (some (1, 0)))), (1, .inl x1), (2, .inl x2), (3, .inr (.inl x3)), (5, .inl x5)], [.inl (36 : Int32), .inl x5], zfC M)) (b := true) (by decide +kernel) rfl rfl ?_
    refine zic_ge Hy.1 (off := 27) (tgt := 36) (by decide +kernel) (by decide) (fun hb3 => ?_) (fun hb3 => ?_)
    · replace h := zite_t h hb3
      refine zblq Hy.1 Hy.2.1 [(.lload 3, 1)] (S' := (37, [(0, .inr (.inr (some (1, 0)))), (1, .inl x1), (2, .inl x2), (3, .inr (.inl x3)), (5, .inl x5)], [.inr (.inl x3)], zfC M)) (b := true) (by decide +kernel) rfl rfl ?_
      cases h
      exact zret_l Hy.1 Hy.2.2 hE (by decide +kernel)
    · replace h := zite_f h hb3
      refine zblq Hy.1 Hy.2.1 [(.aload 0, 1), (.iload 1, 1), (.iload 5, 2)] (S' := (16, [(0, .inr (.inr (some (1, 0)))), (1, .inl x1), (2, .inl x2), (3, .inr (.inl x3)), (5, .inl x5)], [.inl x5, .inl x1, .inr (.inr (some (1, 0)))], zfC M)) (b := true) (by decide +kernel) rfl rfl ?_
      obtain ⟨r1, M1, hc1, h⟩ := zbd_inv h
      refine zcallV Hy.1 (as := [.inl x1, .inl x5]) (st := []) (m1_disagreeing_met (zOK_G Hy.1) Hy.2.1 hc1) cw1_91 m1_disagreeing_in m1_disagreeing_se (by decide) (zhlv Hy.2.1 rfl) rfl (zroom Hy.2.2 ⟨by decide, by decide⟩) rfl (by decide +kernel) ⟨Nat.zero_le _, Nat.zero_le _⟩ ?_
      refine zblq Hy.1 Hy.2.1 [(.iload 2, 1)] (S' := (20, [(0, .inr (.inr (some (1, 0)))), (1, .inl x1), (2, .inl x2), (3, .inr (.inl x3)), (5, .inl x5)], [.inl x2, .inl r1], zfC M1)) (b := true) (by decide +kernel) rfl rfl ?_
      refine zic_gt Hy.1 (off := 10) (tgt := 30) (by decide +kernel) (by decide) (fun hb2 => ?_) (fun hb2 => ?_)
      · replace h := zite_t h hb2
        refine zGo_keep [0, 1, 2, 3, 5] rfl ?_
        exact m1_mayBe_30_ok Hy hE ih x1 x2 x3 x5 M1 h
      · replace h := zite_f h hb2
        refine zblq Hy.1 Hy.2.1 [(.lload 3, 1), (.goto_w 1, 1), (.iload 5, 2), (.lshl, 1), (.lor, 1), (.lstore 3, 1)] (S' := (30, [(0, .inr (.inr (some (1, 0)))), (1, .inl x1), (2, .inl x2), (3, .inr (.inl (x3 ||| (zshlL (1 : Int64) x5)))), (5, .inl x5)], [], zfC M1)) (b := true) (by decide +kernel) rfl rfl ?_
        refine zGo_keep [0, 1, 2, 3, 5] rfl ?_
        exact m1_mayBe_30_ok Hy hE ih x1 x2 (x3 ||| (zshlL (1 : Int64) x5)) x5 M1 h
def m1_mayBe (x1 : Int32) (x2 : Int32) (M : cM) : Option (Int64 × cM) := m1_mayBe_5 zfu x1 x2 (0 : Int64) (0 : Int32) M
theorem m1_mayBe_ok {X : zX} {G : zG} (Hy : zHy X G q1_mayBe zcC 3 73 (some .long)) {r : Int64} {M' : cM} (hE : zEnd X G (some (.inr (.inl r))) (zfC M')) (x1 : Int32) (x2 : Int32) (M : cM) (h : m1_mayBe x1 x2 M = some (r, M')) : zGo (X, q1_mayBe, G) 0 0 (0, [(0, .inr (.inr (some (1, 0)))), (1, .inl x1), (2, .inl x2)], [], zfC M) := by
  unfold m1_mayBe at h
  refine zblq Hy.1 Hy.2.1 [(.goto_w 0, 1), (.lstore 3, 1), (.iconst 0, 1), (.istore 5, 2)] (S' := (5, [(0, .inr (.inr (some (1, 0)))), (1, .inl x1), (2, .inl x2), (3, .inr (.inl (0 : Int64))), (5, .inl (0 : Int32))], [], zfC M)) (b := true) (by decide +kernel) rfl rfl ?_
  refine zGo_keep [0, 1, 2, 3, 5] rfl ?_
  exact m1_mayBe_5_ok Hy hE zfu x1 x2 (0 : Int64) (0 : Int32) M h
theorem m1_mayBe_met {l : Launch} {G : zG} (hG : zGok G) (hcn : zgcn G = zcC) {x1 : Int32} {x2 : Int32} {M : cM} {r : Int64} {M' : cM} (h : m1_mayBe x1 x2 M = some (r, M')) : zMet l G yX1_mayBe cX1_mayBe 6 (some .long) 3 73 [.inr (.inr (some (1, 0))), .inl x1, .inl x2] (zfC M) (some (.inr (.inl r))) (zfC M') :=
  zMet_of hG tbX1_ok rfl (by decide +kernel) (Nat.le_of_ble_eq_true rfl) (fun X _ Z hA hE => m1_mayBe_ok ⟨Z, hcn, hA⟩ hE x1 x2 M h)
