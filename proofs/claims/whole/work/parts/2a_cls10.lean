abbrev q11_refusedClaim : ByteArray × Nat × String × zT := (cX11_refusedClaim, 6, RX11, tbX11)
def m11_refusedClaim_74 (x4 : Int32) (x5 : Int32) (M : cM) : Option (Int32 × cM) := (if x4 ≤ x5 then some ((0 : Int32), M) else some ((-3 : Int32), M))
theorem m11_refusedClaim_74_ok {X : zX} {G : zG} (Hy : zHy X G q11_refusedClaim zcC 1 22 (some .int)) {r : Int32} {M' : cM} (hE : zEnd X G (some (.inl r)) (zfC M')) (x4 : Int32) (x5 : Int32) (M : cM) (h : m11_refusedClaim_74 x4 x5 M = some (r, M')) : zGo (X, q11_refusedClaim, G) 0 0 (74, [(4, .inl x4), (5, .inl x5)], [], zfC M) := by
  unfold m11_refusedClaim_74 at h
  refine zblq Hy.1 Hy.2.1 [(.iload 4, 2), (.iload 5, 2)] (S' := (78, [(4, .inl x4), (5, .inl x5)], [.inl x5, .inl x4], zfC M)) (b := true) (by decide +kernel) rfl rfl ?_
  refine zic_le Hy.1 (off := 6) (tgt := 84) (by decide +kernel) (by decide) (fun hb5 => ?_) (fun hb5 => ?_)
  · replace h := zite_t h hb5
    refine zblq Hy.1 Hy.2.1 [(.iconst 0, 1)] (S' := (85, [(4, .inl x4), (5, .inl x5)], [.inl (0 : Int32)], zfC M)) (b := true) (by decide +kernel) rfl rfl ?_
    cases h
    exact zret_i Hy.1 Hy.2.2 hE (by decide +kernel)
  · replace h := zite_f h hb5
    refine zblq Hy.1 Hy.2.1 [(.iconst (-3), 2)] (S' := (83, [(4, .inl x4), (5, .inl x5)], [.inl (-3 : Int32)], zfC M)) (b := true) (by decide +kernel) rfl rfl ?_
    cases h
    exact zret_i Hy.1 Hy.2.2 hE (by decide +kernel)
def m11_refusedClaim_30 (x1 : Int32) (x3 : Int32) (x4 : Int32) (x5 : Int32) (M : cM) : Option (Int32 × cM) := zbd (m4_hasTick x4 M) (fun r2 M2 => (if r2 = 0 then some ((-2 : Int32), M2) else zbd (m4_hasTick x5 M2) (fun r3 M3 => (if r3 = 0 then some ((-2 : Int32), M3) else zbd (m11_outside x1 (0 : Int32) (1 : Int32) M3) (fun r4 M4 => (if r4 = 0 then (if x1 = 0 then (if x3 = 0 then m11_refusedClaim_74 x4 x5 M4 else some ((-3 : Int32), M4)) else m11_refusedClaim_74 x4 x5 M4) else some ((-3 : Int32), M4)))))))
theorem m11_refusedClaim_30_ok {X : zX} {G : zG} (Hy : zHy X G q11_refusedClaim zcC 1 22 (some .int)) {r : Int32} {M' : cM} (hE : zEnd X G (some (.inl r)) (zfC M')) (x1 : Int32) (x3 : Int32) (x4 : Int32) (x5 : Int32) (M : cM) (h : m11_refusedClaim_30 x1 x3 x4 x5 M = some (r, M')) : zGo (X, q11_refusedClaim, G) 0 0 (30, [(0, .inr (.inr (some (11, 0)))), (1, .inl x1), (3, .inl x3), (4, .inl x4), (5, .inl x5)], [], zfC M) := by
  unfold m11_refusedClaim_30 at h
  refine zblq Hy.1 Hy.2.1 [(.aload 0, 1), (.getfield 1106, 3), (.iload 4, 2)] (S' := (36, [(0, .inr (.inr (some (11, 0)))), (1, .inl x1), (3, .inl x3), (4, .inl x4), (5, .inl x5)], [.inl x4, .inr (.inr (some (4, 0)))], zfC M)) (b := true) (by decide +kernel) rfl rfl ?_
  obtain ⟨r2, M2, hc2, h⟩ := zbd_inv h
  refine zcallV Hy.1 (as := [.inl x4]) (st := []) (m4_hasTick_met (zOK_G Hy.1) Hy.2.1 hc2) cw11_312 m4_hasTick_in m4_hasTick_se (by decide) (zhlv Hy.2.1 rfl) rfl (zroom Hy.2.2 ⟨by decide, by decide⟩) rfl (by decide +kernel) ⟨Nat.zero_le _, Nat.zero_le _⟩ ?_
  refine zif_eq Hy.1 (off := 15) (tgt := 54) (by decide +kernel) (by decide) (fun hb10 => ?_) (fun hb10 => ?_)
  · replace h := zite_t h hb10
    refine zblq Hy.1 Hy.2.1 [(.iconst (-2), 2)] (S' := (56, [(0, .inr (.inr (some (11, 0)))), (1, .inl x1), (3, .inl x3), (4, .inl x4), (5, .inl x5)], [.inl (-2 : Int32)], zfC M2)) (b := true) (by decide +kernel) rfl rfl ?_
    cases h
    exact zret_i Hy.1 Hy.2.2 hE (by decide +kernel)
  · replace h := zite_f h hb10
    refine zblq Hy.1 Hy.2.1 [(.aload 0, 1), (.getfield 1106, 3), (.iload 5, 2)] (S' := (48, [(0, .inr (.inr (some (11, 0)))), (1, .inl x1), (3, .inl x3), (4, .inl x4), (5, .inl x5)], [.inl x5, .inr (.inr (some (4, 0)))], zfC M2)) (b := true) (by decide +kernel) rfl rfl ?_
    obtain ⟨r3, M3, hc3, h⟩ := zbd_inv h
    refine zcallV Hy.1 (as := [.inl x5]) (st := []) (m4_hasTick_met (zOK_G Hy.1) Hy.2.1 hc3) cw11_312 m4_hasTick_in m4_hasTick_se (by decide) (zhlv Hy.2.1 rfl) rfl (zroom Hy.2.2 ⟨by decide, by decide⟩) rfl (by decide +kernel) ⟨Nat.zero_le _, Nat.zero_le _⟩ ?_
    refine zif_ne Hy.1 (off := 6) (tgt := 57) (by decide +kernel) (by decide) (fun hb9 => ?_) (fun hb9 => ?_)
    · replace h := zite_f h hb9
      refine zblq Hy.1 Hy.2.1 [(.iload 1, 1), (.iconst 0, 1), (.iconst 1, 1)] (S' := (60, [(0, .inr (.inr (some (11, 0)))), (1, .inl x1), (3, .inl x3), (4, .inl x4), (5, .inl x5)], [.inl (1 : Int32), .inl (0 : Int32), .inl x1], zfC M3)) (b := true) (by decide +kernel) rfl rfl ?_
      obtain ⟨r4, M4, hc4, h⟩ := zbd_inv h
      refine zcallS Hy.1 (as := [.inl x1, .inl (0 : Int32), .inl (1 : Int32)]) (st := []) (m11_outside_met (zOK_G Hy.1) Hy.2.1 hc4) cw11_66 m11_outside_in rfl (zroom Hy.2.2 ⟨by decide, by decide⟩) rfl (by decide +kernel) ⟨Nat.zero_le _, Nat.zero_le _⟩ ?_
      refine zif_ne Hy.1 (off := 18) (tgt := 81) (by decide +kernel) (by decide) (fun hb8 => ?_) (fun hb8 => ?_)
      · replace h := zite_f h hb8
        refine zblq Hy.1 Hy.2.1 [(.iconst (-3), 2)] (S' := (83, [(0, .inr (.inr (some (11, 0)))), (1, .inl x1), (3, .inl x3), (4, .inl x4), (5, .inl x5)], [.inl (-3 : Int32)], zfC M4)) (b := true) (by decide +kernel) rfl rfl ?_
        cases h
        exact zret_i Hy.1 Hy.2.2 hE (by decide +kernel)
      · replace h := zite_t h hb8
        refine zblq Hy.1 Hy.2.1 [(.iload 1, 1)] (S' := (67, [(0, .inr (.inr (some (11, 0)))), (1, .inl x1), (3, .inl x3), (4, .inl x4), (5, .inl x5)], [.inl x1], zfC M4)) (b := true) (by decide +kernel) rfl rfl ?_
        refine zif_ne Hy.1 (off := 7) (tgt := 74) (by decide +kernel) (by decide) (fun hb7 => ?_) (fun hb7 => ?_)
        · replace h := zite_f h hb7
          refine zGo_keep [4, 5] rfl ?_
          exact m11_refusedClaim_74_ok Hy hE x4 x5 M4 h
        · replace h := zite_t h hb7
          refine zblq Hy.1 Hy.2.1 [(.iload 3, 1)] (S' := (71, [(0, .inr (.inr (some (11, 0)))), (1, .inl x1), (3, .inl x3), (4, .inl x4), (5, .inl x5)], [.inl x3], zfC M4)) (b := true) (by decide +kernel) rfl rfl ?_
          refine zif_ne Hy.1 (off := 10) (tgt := 81) (by decide +kernel) (by decide) (fun hb6 => ?_) (fun hb6 => ?_)
          · replace h := zite_f h hb6
            refine zblq Hy.1 Hy.2.1 [(.iconst (-3), 2)] (S' := (83, [(0, .inr (.inr (some (11, 0)))), (1, .inl x1), (3, .inl x3), (4, .inl x4), (5, .inl x5)], [.inl (-3 : Int32)], zfC M4)) (b := true) (by decide +kernel) rfl rfl ?_
            cases h
            exact zret_i Hy.1 Hy.2.2 hE (by decide +kernel)
          · replace h := zite_t h hb6
            refine zGo_keep [4, 5] rfl ?_
            exact m11_refusedClaim_74_ok Hy hE x4 x5 M4 h
    · replace h := zite_t h hb9
      refine zblq Hy.1 Hy.2.1 [(.iconst (-2), 2)] (S' := (56, [(0, .inr (.inr (some (11, 0)))), (1, .inl x1), (3, .inl x3), (4, .inl x4), (5, .inl x5)], [.inl (-2 : Int32)], zfC M3)) (b := true) (by decide +kernel) rfl rfl ?_
      cases h
      exact zret_i Hy.1 Hy.2.2 hE (by decide +kernel)
def m11_refusedClaim (x1 : Int32) (x2 : Int32) (x3 : Int32) (x4 : Int32) (x5 : Int32) (M : cM) : Option (Int32 × cM) := zbd (m4_hasSpot x2 M) (fun r1 M1 => (if r1 = 0 then some ((-2 : Int32), M1) else (if x1 = (1 : Int32) then zbd (m4_hasSpot x3 M1) (fun r11 M11 => (if r11 = 0 then some ((-2 : Int32), M11) else m11_refusedClaim_30 x1 x3 x4 x5 M11)) else m11_refusedClaim_30 x1 x3 x4 x5 M1)))
theorem m11_refusedClaim_ok {X : zX} {G : zG} (Hy : zHy X G q11_refusedClaim zcC 1 22 (some .int)) {r : Int32} {M' : cM} (hE : zEnd X G (some (.inl r)) (zfC M')) (x1 : Int32) (x2 : Int32) (x3 : Int32) (x4 : Int32) (x5 : Int32) (M : cM) (h : m11_refusedClaim x1 x2 x3 x4 x5 M = some (r, M')) : zGo (X, q11_refusedClaim, G) 0 0 (0, [(0, .inr (.inr (some (11, 0)))), (1, .inl x1), (2, .inl x2), (3, .inl x3), (4, .inl x4), (5, .inl x5)], [], zfC M) := by
  unfold m11_refusedClaim at h
  refine zblq Hy.1 Hy.2.1 [(.aload 0, 1), (.getfield 1106, 3), (.iload 2, 1)] (S' := (5, [(0, .inr (.inr (some (11, 0)))), (1, .inl x1), (2, .inl x2), (3, .inl x3), (4, .inl x4), (5, .inl x5)], [.inl x2, .inr (.inr (some (4, 0)))], zfC M)) (b := true) (by decide +kernel) rfl rfl ?_
  obtain ⟨r1, M1, hc1, h⟩ := zbd_inv h
  refine zcallV Hy.1 (as := [.inl x2]) (st := []) (m4_hasSpot_met (zOK_G Hy.1) Hy.2.1 hc1) cw11_300 m4_hasSpot_in m4_hasSpot_se (by decide) (zhlv Hy.2.1 rfl) rfl (zroom Hy.2.2 ⟨by decide, by decide⟩) rfl (by decide +kernel) ⟨Nat.zero_le _, Nat.zero_le _⟩ ?_
  refine zif_eq Hy.1 (off := 19) (tgt := 27) (by decide +kernel) (by decide) (fun hb14 => ?_) (fun hb14 => ?_)
  · replace h := zite_t h hb14
    refine zblq Hy.1 Hy.2.1 [(.iconst (-2), 2)] (S' := (29, [(0, .inr (.inr (some (11, 0)))), (1, .inl x1), (2, .inl x2), (3, .inl x3), (4, .inl x4), (5, .inl x5)], [.inl (-2 : Int32)], zfC M1)) (b := true) (by decide +kernel) rfl rfl ?_
    cases h
    exact zret_i Hy.1 Hy.2.2 hE (by decide +kernel)
  · replace h := zite_f h hb14
    refine zblq Hy.1 Hy.2.1 [(.iload 1, 1), (.iconst 1, 1)] (S' := (13, [(0, .inr (.inr (some (11, 0)))), (1, .inl x1), (2, .inl x2), (3, .inl x3), (4, .inl x4), (5, .inl x5)], [.inl (1 : Int32), .inl x1], zfC M1)) (b := true) (by decide +kernel) rfl rfl ?_
    refine zic_ne Hy.1 (off := 17) (tgt := 30) (by decide +kernel) (by decide) (fun hb13 => ?_) (fun hb13 => ?_)
    · replace h := zite_f h hb13
      refine zGo_keep [0, 1, 3, 4, 5] rfl ?_
      exact m11_refusedClaim_30_ok Hy hE x1 x3 x4 x5 M1 h
    · replace h := zite_t h hb13
      refine zblq Hy.1 Hy.2.1 [(.aload 0, 1), (.getfield 1106, 3), (.iload 3, 1)] (S' := (21, [(0, .inr (.inr (some (11, 0)))), (1, .inl x1), (2, .inl x2), (3, .inl x3), (4, .inl x4), (5, .inl x5)], [.inl x3, .inr (.inr (some (4, 0)))], zfC M1)) (b := true) (by decide +kernel) rfl rfl ?_
      obtain ⟨r11, M11, hc11, h⟩ := zbd_inv h
      refine zcallV Hy.1 (as := [.inl x3]) (st := []) (m4_hasSpot_met (zOK_G Hy.1) Hy.2.1 hc11) cw11_300 m4_hasSpot_in m4_hasSpot_se (by decide) (zhlv Hy.2.1 rfl) rfl (zroom Hy.2.2 ⟨by decide, by decide⟩) rfl (by decide +kernel) ⟨Nat.zero_le _, Nat.zero_le _⟩ ?_
      refine zif_ne Hy.1 (off := 6) (tgt := 30) (by decide +kernel) (by decide) (fun hb12 => ?_) (fun hb12 => ?_)
      · replace h := zite_f h hb12
        refine zGo_keep [0, 1, 3, 4, 5] rfl ?_
        exact m11_refusedClaim_30_ok Hy hE x1 x3 x4 x5 M11 h
      · replace h := zite_t h hb12
        refine zblq Hy.1 Hy.2.1 [(.iconst (-2), 2)] (S' := (29, [(0, .inr (.inr (some (11, 0)))), (1, .inl x1), (2, .inl x2), (3, .inl x3), (4, .inl x4), (5, .inl x5)], [.inl (-2 : Int32)], zfC M11)) (b := true) (by decide +kernel) rfl rfl ?_
        cases h
        exact zret_i Hy.1 Hy.2.2 hE (by decide +kernel)
theorem m11_refusedClaim_met {l : Launch} {G : zG} (hG : zGok G) (hcn : zgcn G = zcC) {x1 : Int32} {x2 : Int32} {x3 : Int32} {x4 : Int32} {x5 : Int32} {M : cM} {r : Int32} {M' : cM} (h : m11_refusedClaim x1 x2 x3 x4 x5 M = some (r, M')) : zMet l G yX11_refusedClaim cX11_refusedClaim 6 (some .int) 1 22 [.inr (.inr (some (11, 0))), .inl x1, .inl x2, .inl x3, .inl x4, .inl x5] (zfC M) (some (.inl r)) (zfC M') :=
  zMet_of hG tbX11_ok rfl (by decide +kernel) (Nat.le_of_ble_eq_true rfl) (fun X _ Z hA hE => m11_refusedClaim_ok ⟨Z, hcn, hA⟩ hE x1 x2 x3 x4 x5 M h)
abbrev q4_claim : ByteArray × Nat × String × zT := (cX4_claim, 6, RX4, tbX4)
def m4_claim (x1 : Int32) (x2 : Int32) (x3 : Int32) (x4 : Int32) (x5 : Int32) (M : cM) : Option cM := some (cs (cs (cs (cs (cs M 4 0 13 x1) 4 0 14 x2) 4 0 15 x3) 4 0 16 x4) 4 0 17 x5)
theorem m4_claim_ok {X : zX} {G : zG} (Hy : zHy X G q4_claim zcC 0 0 (none)) {M' : cM} (hE : zEnd X G (none) (zfC M')) (x1 : Int32) (x2 : Int32) (x3 : Int32) (x4 : Int32) (x5 : Int32) (M : cM) (h : m4_claim x1 x2 x3 x4 x5 M = some M') : zGo (X, q4_claim, G) 0 0 (0, [(0, .inr (.inr (some (4, 0)))), (1, .inl x1), (2, .inl x2), (3, .inl x3), (4, .inl x4), (5, .inl x5)], [], zfC M) := by
  unfold m4_claim at h
  refine zblq Hy.1 Hy.2.1 [(.aload 0, 1), (.iload 1, 1), (.invokeinterface 4 13, 3), (.aload 0, 1), (.iload 2, 1), (.invokeinterface 4 14, 3), (.aload 0, 1), (.iload 3, 1), (.invokeinterface 4 15, 3), (.aload 0, 1), (.iload 4, 2), (.invokeinterface 4 16, 3), (.aload 0, 1), (.iload 5, 2), (.invokeinterface 4 17, 3)] (S' := (27, [(0, .inr (.inr (some (4, 0)))), (1, .inl x1), (2, .inl x2), (3, .inl x3), (4, .inl x4), (5, .inl x5)], [], zfC (cs (cs (cs (cs (cs M 4 0 13 x1) 4 0 14 x2) 4 0 15 x3) 4 0 16 x4) 4 0 17 x5))) (b := true) (by decide +kernel) rfl rfl ?_
  cases h
  exact zret_v Hy.1 Hy.2.2 hE (by decide +kernel)
theorem m4_claim_met {l : Launch} {G : zG} (hG : zGok G) (hcn : zgcn G = zcC) {x1 : Int32} {x2 : Int32} {x3 : Int32} {x4 : Int32} {x5 : Int32} {M : cM} {M' : cM} (h : m4_claim x1 x2 x3 x4 x5 M = some M') : zMet l G yX4_claim cX4_claim 6 (none) 0 0 [.inr (.inr (some (4, 0))), .inl x1, .inl x2, .inl x3, .inl x4, .inl x5] (zfC M) (none) (zfC M') :=
  zMet_of hG tbX4_ok rfl (by decide +kernel) (Nat.le_of_ble_eq_true rfl) (fun X _ Z hA hE => m4_claim_ok ⟨Z, hcn, hA⟩ hE x1 x2 x3 x4 x5 M h)
abbrev q4_isSo : ByteArray × Nat × String × zT := (cX4_isSo, 5, RX4, tbX4)
def m4_isSo_80 (k7 : Int32 → Int32 → Int32 → cM → Option (Int32 × cM)) (x1 : Int32) (x2 : Int32) (x3 : Int32) (M : cM) : Option (Int32 × cM) := k7 x1 x2 (x3 + (1 : Int32)) M
theorem m4_isSo_80_ok {X : zX} {G : zG} (Hy : zHy X G q4_isSo zcC 1 23 (some .boolean)) {r : Int32} {M' : cM} (hE : zEnd X G (some (.inl r)) (zfC M')) {k7 : Int32 → Int32 → Int32 → cM → Option (Int32 × cM)} (hk7 : ∀ (x1 : Int32) (x2 : Int32) (x3 : Int32) (M : cM), k7 x1 x2 x3 M = some (r, M') → zGo (X, q4_isSo, G) 0 0 (7, [(0, .inr (.inr (some (4, 0)))), (1, .inl x1), (2, .inl x2), (3, .inl x3)], [], zfC M)) (x1 : Int32) (x2 : Int32) (x3 : Int32) (M : cM) (h : m4_isSo_80 k7 x1 x2 x3 M = some (r, M')) : zGo (X, q4_isSo, G) 0 0 (80, [(0, .inr (.inr (some (4, 0)))), (1, .inl x1), (2, .inl x2), (3, .inl x3)], [], zfC M) := by
  unfold m4_isSo_80 at h
  refine zblq Hy.1 Hy.2.1 [(.iinc 3 1, 3), (.ldc 7, 3)] (S' := (7, [(0, .inr (.inr (some (4, 0)))), (1, .inl x1), (2, .inl x2), (3, .inl (x3 + (1 : Int32)))], [], zfC M)) (b := true) (by decide +kernel) rfl rfl ?_
  refine zGo_keep [0, 1, 2, 3] rfl ?_
  exact hk7 x1 x2 (x3 + (1 : Int32)) M h
def m4_isSo_69 (k7 : Int32 → Int32 → Int32 → cM → Option (Int32 × cM)) (x1 : Int32) (x2 : Int32) (x3 : Int32) (x4 : Int32) (M : cM) : Option (Int32 × cM) := (if x4 = (cg M 4 0 14) then m4_isSo_80 k7 x1 (1 : Int32) x3 M else m4_isSo_80 k7 x1 x2 x3 M)
theorem m4_isSo_69_ok {X : zX} {G : zG} (Hy : zHy X G q4_isSo zcC 1 23 (some .boolean)) {r : Int32} {M' : cM} (hE : zEnd X G (some (.inl r)) (zfC M')) {k7 : Int32 → Int32 → Int32 → cM → Option (Int32 × cM)} (hk7 : ∀ (x1 : Int32) (x2 : Int32) (x3 : Int32) (M : cM), k7 x1 x2 x3 M = some (r, M') → zGo (X, q4_isSo, G) 0 0 (7, [(0, .inr (.inr (some (4, 0)))), (1, .inl x1), (2, .inl x2), (3, .inl x3)], [], zfC M)) (x1 : Int32) (x2 : Int32) (x3 : Int32) (x4 : Int32) (M : cM) (h : m4_isSo_69 k7 x1 x2 x3 x4 M = some (r, M')) : zGo (X, q4_isSo, G) 0 0 (69, [(0, .inr (.inr (some (4, 0)))), (1, .inl x1), (2, .inl x2), (3, .inl x3), (4, .inl x4)], [], zfC M) := by
  unfold m4_isSo_69 at h
  refine zblq Hy.1 Hy.2.1 [(.iload 4, 2), (.aload 0, 1), (.multianewarray 4 14, 3)] (S' := (75, [(0, .inr (.inr (some (4, 0)))), (1, .inl x1), (2, .inl x2), (3, .inl x3), (4, .inl x4)], [.inl (cg M 4 0 14), .inl x4], zfC M)) (b := true) (by decide +kernel) rfl rfl ?_
  refine zic_ne Hy.1 (off := 5) (tgt := 80) (by decide +kernel) (by decide) (fun hb2 => ?_) (fun hb2 => ?_)
  · replace h := zite_f h hb2
    refine zGo_keep [0, 1, 2, 3] rfl ?_
    exact m4_isSo_80_ok Hy hE hk7 x1 x2 x3 M h
  · replace h := zite_t h hb2
    refine zblq Hy.1 Hy.2.1 [(.iconst 1, 1), (.istore 2, 1)] (S' := (80, [(0, .inr (.inr (some (4, 0)))), (1, .inl x1), (2, .inl (1 : Int32)), (3, .inl x3), (4, .inl x4)], [], zfC M)) (b := true) (by decide +kernel) rfl rfl ?_
    refine zGo_keep [0, 1, 2, 3] rfl ?_
    exact m4_isSo_80_ok Hy hE hk7 x1 (1 : Int32) x3 M h
def m4_isSo_46 (k7 : Int32 → Int32 → Int32 → cM → Option (Int32 × cM)) (x1 : Int32) (x2 : Int32) (x3 : Int32) (x4 : Int32) (M : cM) : Option (Int32 × cM) := (if (cg M 4 0 13) = (1 : Int32) then (if x2 = 0 then m4_isSo_69 k7 x1 x2 x3 x4 M else (if x4 = (cg M 4 0 15) then some ((1 : Int32), M) else m4_isSo_69 k7 x1 x2 x3 x4 M)) else m4_isSo_69 k7 x1 x2 x3 x4 M)
theorem m4_isSo_46_ok {X : zX} {G : zG} (Hy : zHy X G q4_isSo zcC 1 23 (some .boolean)) {r : Int32} {M' : cM} (hE : zEnd X G (some (.inl r)) (zfC M')) {k7 : Int32 → Int32 → Int32 → cM → Option (Int32 × cM)} (hk7 : ∀ (x1 : Int32) (x2 : Int32) (x3 : Int32) (M : cM), k7 x1 x2 x3 M = some (r, M') → zGo (X, q4_isSo, G) 0 0 (7, [(0, .inr (.inr (some (4, 0)))), (1, .inl x1), (2, .inl x2), (3, .inl x3)], [], zfC M)) (x1 : Int32) (x2 : Int32) (x3 : Int32) (x4 : Int32) (M : cM) (h : m4_isSo_46 k7 x1 x2 x3 x4 M = some (r, M')) : zGo (X, q4_isSo, G) 0 0 (46, [(0, .inr (.inr (some (4, 0)))), (1, .inl x1), (2, .inl x2), (3, .inl x3), (4, .inl x4)], [], zfC M) := by
  unfold m4_isSo_46 at h
  refine zblq Hy.1 Hy.2.1 [(.aload 0, 1), (.multianewarray 4 13, 3), (.iconst 1, 1)] (S' := (51, [(0, .inr (.inr (some (4, 0)))), (1, .inl x1), (2, .inl x2), (3, .inl x3), (4, .inl x4)], [.inl (1 : Int32), .inl (cg M 4 0 13)], zfC M)) (b := true) (by decide +kernel) rfl rfl ?_
  refine zic_ne Hy.1 (off := 18) (tgt := 69) (by decide +kernel) (by decide) (fun hb5 => ?_) (fun hb5 => ?_)
  · replace h := zite_f h hb5
    refine zGo_keep [0, 1, 2, 3, 4] rfl ?_
    exact m4_isSo_69_ok Hy hE hk7 x1 x2 x3 x4 M h
  · replace h := zite_t h hb5
    refine zblq Hy.1 Hy.2.1 [(.iload 2, 1)] (S' := (55, [(0, .inr (.inr (some (4, 0)))), (1, .inl x1), (2, .inl x2), (3, .inl x3), (4, .inl x4)], [.inl x2], zfC M)) (b := true) (by decide +kernel) rfl rfl ?_
    refine zif_eq Hy.1 (off := 14) (tgt := 69) (by decide +kernel) (by decide) (fun hb4 => ?_) (fun hb4 => ?_)
    · replace h := zite_t h hb4
      refine zGo_keep [0, 1, 2, 3, 4] rfl ?_
      exact m4_isSo_69_ok Hy hE hk7 x1 x2 x3 x4 M h
    · replace h := zite_f h hb4
      refine zblq Hy.1 Hy.2.1 [(.iload 4, 2), (.aload 0, 1), (.multianewarray 4 15, 3)] (S' := (64, [(0, .inr (.inr (some (4, 0)))), (1, .inl x1), (2, .inl x2), (3, .inl x3), (4, .inl x4)], [.inl (cg M 4 0 15), .inl x4], zfC M)) (b := true) (by decide +kernel) rfl rfl ?_
      refine zic_ne Hy.1 (off := 5) (tgt := 69) (by decide +kernel) (by decide) (fun hb3 => ?_) (fun hb3 => ?_)
      · replace h := zite_f h hb3
        refine zGo_keep [0, 1, 2, 3, 4] rfl ?_
        exact m4_isSo_69_ok Hy hE hk7 x1 x2 x3 x4 M h
      · replace h := zite_t h hb3
        refine zblq Hy.1 Hy.2.1 [(.iconst 1, 1)] (S' := (68, [(0, .inr (.inr (some (4, 0)))), (1, .inl x1), (2, .inl x2), (3, .inl x3), (4, .inl x4)], [.inl (1 : Int32)], zfC M)) (b := true) (by decide +kernel) rfl rfl ?_
        cases h
        exact zret_z Hy.1 Hy.2.2 (by decide) hE (by decide +kernel)
def m4_isSo_7 : Nat → Int32 → Int32 → Int32 → cM → Option (Int32 × cM)
  | 0, _, _, _, _ => none
  | n + 1, x1, x2, x3, M => (if (cg M 4 0 17) < x3 then some ((0 : Int32), M) else (if (5 : Int32) ≤ x3 then some ((0 : Int32), M) else zbd (m4_spotIn x1 x3 M) (fun r1 M1 => (if (cg M1 4 0 13) = 0 then (if r1 = (cg M1 4 0 14) then some ((1 : Int32), M1) else m4_isSo_46 (m4_isSo_7 n) x1 x2 x3 r1 M1) else m4_isSo_46 (m4_isSo_7 n) x1 x2 x3 r1 M1))))
theorem m4_isSo_7_ok {X : zX} {G : zG} (Hy : zHy X G q4_isSo zcC 1 23 (some .boolean)) {r : Int32} {M' : cM} (hE : zEnd X G (some (.inl r)) (zfC M')) : ∀ (n : Nat) (x1 : Int32) (x2 : Int32) (x3 : Int32) (M : cM), m4_isSo_7 n x1 x2 x3 M = some (r, M') → zGo (X, q4_isSo, G) 0 0 (7, [(0, .inr (.inr (some (4, 0)))), (1, .inl x1), (2, .inl x2), (3, .inl x3)], [], zfC M) := by
  intro n
  induction n with
  | zero => intro x1 x2 x3 M h; cases h
  | succ n ih =>
    intro x1 x2 x3 M h
    unfold m4_isSo_7 at h
    refine zblq Hy.1 Hy.2.1 [(.iload 3, 1), (.aload 0, 1), (.multianewarray 4 17, 3)] (S' := (12, [(0, .inr (.inr (some (4, 0)))), (1, .inl x1), (2, .inl x2), (3, .inl x3)], [.inl (cg M 4 0 17), .inl x3], zfC M)) (b := true) (by decide +kernel) rfl rfl ?_
    refine zic_gt Hy.1 (off := 74) (tgt := 86) (by decide +kernel) (by decide) (fun hb9 => ?_) (fun hb9 => ?_)
    · replace h := zite_t h hb9
      refine zblq Hy.1 Hy.2.1 [(.iconst 0, 1)] (S' := (87, [(0, .inr (.inr (some (4, 0)))), (1, .inl x1), (2, .inl x2), (3, .inl x3)], [.inl (0 : Int32)], zfC M)) (b := true) (by decide +kernel) rfl rfl ?_
      cases h
      exact zret_z Hy.1 Hy.2.2 (by decide) hE (by decide +kernel)
    · replace h := zite_f h hb9
      refine zblq Hy.1 Hy.2.1 [(.iload 3, 1), (.iconst 5, 1)] (S' := (17, [(0, .inr (.inr (some (4, 0)))), (1, .inl x1), (2, .inl x2), (3, .inl x3)], [.inl (5 : Int32), .inl x3], zfC M)) (b := true) (by decide +kernel) rfl rfl ?_
      refine zic_ge Hy.1 (off := 69) (tgt := 86) (by decide +kernel) (by decide) (fun hb8 => ?_) (fun hb8 => ?_)
      · replace h := zite_t h hb8
        refine zblq Hy.1 Hy.2.1 [(.iconst 0, 1)] (S' := (87, [(0, .inr (.inr (some (4, 0)))), (1, .inl x1), (2, .inl x2), (3, .inl x3)], [.inl (0 : Int32)], zfC M)) (b := true) (by decide +kernel) rfl rfl ?_
        cases h
        exact zret_z Hy.1 Hy.2.2 (by decide) hE (by decide +kernel)
      · replace h := zite_f h hb8
        refine zblq Hy.1 Hy.2.1 [(.aload 0, 1), (.iload 1, 1), (.iload 3, 1)] (S' := (23, [(0, .inr (.inr (some (4, 0)))), (1, .inl x1), (2, .inl x2), (3, .inl x3)], [.inl x3, .inl x1, .inr (.inr (some (4, 0)))], zfC M)) (b := true) (by decide +kernel) rfl rfl ?_
        obtain ⟨r1, M1, hc1, h⟩ := zbd_inv h
        refine zcallV Hy.1 (as := [.inl x1, .inl x3]) (st := []) (m4_spotIn_met (zOK_G Hy.1) Hy.2.1 hc1) cw4_105 m4_spotIn_in m4_spotIn_se (by decide) (zhlv Hy.2.1 rfl) rfl (zroom Hy.2.2 ⟨by decide, by decide⟩) rfl (by decide +kernel) ⟨Nat.zero_le _, Nat.zero_le _⟩ ?_
        refine zblq Hy.1 Hy.2.1 [(.istore 4, 2), (.aload 0, 1), (.multianewarray 4 13, 3)] (S' := (32, [(0, .inr (.inr (some (4, 0)))), (1, .inl x1), (2, .inl x2), (3, .inl x3), (4, .inl r1)], [.inl (cg M1 4 0 13)], zfC M1)) (b := true) (by decide +kernel) rfl rfl ?_
        refine zif_ne Hy.1 (off := 14) (tgt := 46) (by decide +kernel) (by decide) (fun hb7 => ?_) (fun hb7 => ?_)
        · replace h := zite_f h hb7
          refine zGo_keep [0, 1, 2, 3, 4] rfl ?_
          exact m4_isSo_46_ok Hy hE ih x1 x2 x3 r1 M1 h
        · replace h := zite_t h hb7
          refine zblq Hy.1 Hy.2.1 [(.iload 4, 2), (.aload 0, 1), (.multianewarray 4 14, 3)] (S' := (41, [(0, .inr (.inr (some (4, 0)))), (1, .inl x1), (2, .inl x2), (3, .inl x3), (4, .inl r1)], [.inl (cg M1 4 0 14), .inl r1], zfC M1)) (b := true) (by decide +kernel) rfl rfl ?_
          refine zic_ne Hy.1 (off := 5) (tgt := 46) (by decide +kernel) (by decide) (fun hb6 => ?_) (fun hb6 => ?_)
          · replace h := zite_f h hb6
            refine zGo_keep [0, 1, 2, 3, 4] rfl ?_
            exact m4_isSo_46_ok Hy hE ih x1 x2 x3 r1 M1 h
          · replace h := zite_t h hb6
            refine zblq Hy.1 Hy.2.1 [(.iconst 1, 1)] (S' := (45, [(0, .inr (.inr (some (4, 0)))), (1, .inl x1), (2, .inl x2), (3, .inl x3), (4, .inl r1)], [.inl (1 : Int32)], zfC M1)) (b := true) (by decide +kernel) rfl rfl ?_
            cases h
            exact zret_z Hy.1 Hy.2.2 (by decide) hE (by decide +kernel)
def m4_isSo (x1 : Int32) (M : cM) : Option (Int32 × cM) := m4_isSo_7 zfu x1 (0 : Int32) (cg M 4 0 16) M
theorem m4_isSo_ok {X : zX} {G : zG} (Hy : zHy X G q4_isSo zcC 1 23 (some .boolean)) {r : Int32} {M' : cM} (hE : zEnd X G (some (.inl r)) (zfC M')) (x1 : Int32) (M : cM) (h : m4_isSo x1 M = some (r, M')) : zGo (X, q4_isSo, G) 0 0 (0, [(0, .inr (.inr (some (4, 0)))), (1, .inl x1)], [], zfC M) := by
  unfold m4_isSo at h
  refine zblq Hy.1 Hy.2.1 [(.iconst 0, 1), (.istore 2, 1), (.aload 0, 1), (.multianewarray 4 16, 3), (.istore 3, 1)] (S' := (7, [(0, .inr (.inr (some (4, 0)))), (1, .inl x1), (2, .inl (0 : Int32)), (3, .inl (cg M 4 0 16))], [], zfC M)) (b := true) (by decide +kernel) rfl rfl ?_
  refine zGo_keep [0, 1, 2, 3] rfl ?_
  exact m4_isSo_7_ok Hy hE zfu x1 (0 : Int32) (cg M 4 0 16) M h
theorem m4_isSo_met {l : Launch} {G : zG} (hG : zGok G) (hcn : zgcn G = zcC) {x1 : Int32} {M : cM} {r : Int32} {M' : cM} (h : m4_isSo x1 M = some (r, M')) : zMet l G yX4_isSo cX4_isSo 5 (some .boolean) 1 23 [.inr (.inr (some (4, 0))), .inl x1] (zfC M) (some (.inl r)) (zfC M') :=
  zMet_of hG tbX4_ok rfl (by decide +kernel) (Nat.le_of_ble_eq_true rfl) (fun X _ Z hA hE => m4_isSo_ok ⟨Z, hcn, hA⟩ hE x1 M h)
abbrev q4_verdict : ByteArray × Nat × String × zT := (cX4_verdict, 5, RX4, tbX4)
def m4_verdict_63 (x2 : Int32) (x3 : Int32) (M : cM) : Option (Int32 × cM) := (if x2 = 0 then (if x3 = 0 then some ((3 : Int32), M) else some ((0 : Int32), M)) else some ((1 : Int32), M))
theorem m4_verdict_63_ok {X : zX} {G : zG} (Hy : zHy X G q4_verdict zcC 5 116 (some .int)) {r : Int32} {M' : cM} (hE : zEnd X G (some (.inl r)) (zfC M')) (x2 : Int32) (x3 : Int32) (M : cM) (h : m4_verdict_63 x2 x3 M = some (r, M')) : zGo (X, q4_verdict, G) 0 0 (63, [(2, .inl x2), (3, .inl x3)], [], zfC M) := by
  unfold m4_verdict_63 at h
  refine zblq Hy.1 Hy.2.1 [(.iload 2, 1)] (S' := (64, [(2, .inl x2), (3, .inl x3)], [.inl x2], zfC M)) (b := true) (by decide +kernel) rfl rfl ?_
  refine zif_eq Hy.1 (off := 5) (tgt := 69) (by decide +kernel) (by decide) (fun hb3 => ?_) (fun hb3 => ?_)
  · replace h := zite_t h hb3
    refine zblq Hy.1 Hy.2.1 [(.iload 3, 1)] (S' := (70, [(2, .inl x2), (3, .inl x3)], [.inl x3], zfC M)) (b := true) (by decide +kernel) rfl rfl ?_
    refine zif_eq Hy.1 (off := 7) (tgt := 77) (by decide +kernel) (by decide) (fun hb2 => ?_) (fun hb2 => ?_)
    · replace h := zite_t h hb2
      refine zblq Hy.1 Hy.2.1 [(.iconst 3, 1)] (S' := (78, [(2, .inl x2), (3, .inl x3)], [.inl (3 : Int32)], zfC M)) (b := true) (by decide +kernel) rfl rfl ?_
      cases h
      exact zret_i Hy.1 Hy.2.2 hE (by decide +kernel)
    · replace h := zite_f h hb2
      refine zblq Hy.1 Hy.2.1 [(.iconst 0, 1), (.ldc 78, 3)] (S' := (78, [(2, .inl x2), (3, .inl x3)], [.inl (0 : Int32)], zfC M)) (b := true) (by decide +kernel) rfl rfl ?_
      cases h
      exact zret_i Hy.1 Hy.2.2 hE (by decide +kernel)
  · replace h := zite_f h hb3
    refine zblq Hy.1 Hy.2.1 [(.iconst 1, 1)] (S' := (68, [(2, .inl x2), (3, .inl x3)], [.inl (1 : Int32)], zfC M)) (b := true) (by decide +kernel) rfl rfl ?_
    cases h
    exact zret_i Hy.1 Hy.2.2 hE (by decide +kernel)
def m4_verdict_53 (x2 : Int32) (x3 : Int32) (M : cM) : Option (Int32 × cM) := (if x2 = 0 then m4_verdict_63 x2 x3 M else (if x3 = 0 then m4_verdict_63 x2 x3 M else some ((2 : Int32), M)))
theorem m4_verdict_53_ok {X : zX} {G : zG} (Hy : zHy X G q4_verdict zcC 5 116 (some .int)) {r : Int32} {M' : cM} (hE : zEnd X G (some (.inl r)) (zfC M')) (x2 : Int32) (x3 : Int32) (M : cM) (h : m4_verdict_53 x2 x3 M = some (r, M')) : zGo (X, q4_verdict, G) 0 0 (53, [(2, .inl x2), (3, .inl x3)], [], zfC M) := by
  unfold m4_verdict_53 at h
  refine zblq Hy.1 Hy.2.1 [(.iload 2, 1)] (S' := (54, [(2, .inl x2), (3, .inl x3)], [.inl x2], zfC M)) (b := true) (by decide +kernel) rfl rfl ?_
  refine zif_eq Hy.1 (off := 9) (tgt := 63) (by decide +kernel) (by decide) (fun hb5 => ?_) (fun hb5 => ?_)
  · replace h := zite_t h hb5
    refine zGo_keep [2, 3] rfl ?_
    exact m4_verdict_63_ok Hy hE x2 x3 M h
  · replace h := zite_f h hb5
    refine zblq Hy.1 Hy.2.1 [(.iload 3, 1)] (S' := (58, [(2, .inl x2), (3, .inl x3)], [.inl x3], zfC M)) (b := true) (by decide +kernel) rfl rfl ?_
    refine zif_eq Hy.1 (off := 5) (tgt := 63) (by decide +kernel) (by decide) (fun hb4 => ?_) (fun hb4 => ?_)
    · replace h := zite_t h hb4
      refine zGo_keep [2, 3] rfl ?_
      exact m4_verdict_63_ok Hy hE x2 x3 M h
    · replace h := zite_f h hb4
      refine zblq Hy.1 Hy.2.1 [(.iconst 2, 1)] (S' := (62, [(2, .inl x2), (3, .inl x3)], [.inl (2 : Int32)], zfC M)) (b := true) (by decide +kernel) rfl rfl ?_
      cases h
      exact zret_i Hy.1 Hy.2.2 hE (by decide +kernel)
def m4_verdict_47 (k12 : Int32 → Int32 → Int32 → Int32 → cM → Option (Int32 × cM)) (x1 : Int32) (x2 : Int32) (x3 : Int32) (x4 : Int32) (M : cM) : Option (Int32 × cM) := k12 x1 x2 x3 (x4 + (1 : Int32)) M
theorem m4_verdict_47_ok {X : zX} {G : zG} (Hy : zHy X G q4_verdict zcC 5 116 (some .int)) {r : Int32} {M' : cM} (hE : zEnd X G (some (.inl r)) (zfC M')) {k12 : Int32 → Int32 → Int32 → Int32 → cM → Option (Int32 × cM)} (hk12 : ∀ (x1 : Int32) (x2 : Int32) (x3 : Int32) (x4 : Int32) (M : cM), k12 x1 x2 x3 x4 M = some (r, M') → zGo (X, q4_verdict, G) 0 0 (12, [(0, .inr (.inr (some (4, 0)))), (1, .inl x1), (2, .inl x2), (3, .inl x3), (4, .inl x4)], [], zfC M)) (x1 : Int32) (x2 : Int32) (x3 : Int32) (x4 : Int32) (M : cM) (h : m4_verdict_47 k12 x1 x2 x3 x4 M = some (r, M')) : zGo (X, q4_verdict, G) 0 0 (47, [(0, .inr (.inr (some (4, 0)))), (1, .inl x1), (2, .inl x2), (3, .inl x3), (4, .inl x4)], [], zfC M) := by
  unfold m4_verdict_47 at h
  refine zblq Hy.1 Hy.2.1 [(.iinc 4 1, 3), (.ldc 12, 3)] (S' := (12, [(0, .inr (.inr (some (4, 0)))), (1, .inl x1), (2, .inl x2), (3, .inl x3), (4, .inl (x4 + (1 : Int32)))], [], zfC M)) (b := true) (by decide +kernel) rfl rfl ?_
  refine zGo_keep [0, 1, 2, 3, 4] rfl ?_
  exact hk12 x1 x2 x3 (x4 + (1 : Int32)) M h
def m4_verdict_12 : Nat → Int32 → Int32 → Int32 → Int32 → cM → Option (Int32 × cM)
  | 0, _, _, _, _, _ => none
  | n + 1, x1, x2, x3, x4, M => (if x1 ≤ x4 then m4_verdict_53 x2 x3 M else (if (7776 : Int32) ≤ x4 then m4_verdict_53 x2 x3 M else zgd (zin x4 7776 && true) (zbd (m4_isSo (cg M 510 0 (nx x4)) M) (fun r7 M7 => (if r7 = 0 then m4_verdict_47 (m4_verdict_12 n) x1 x2 (1 : Int32) x4 M7 else m4_verdict_47 (m4_verdict_12 n) x1 (1 : Int32) x3 x4 M7)))))
theorem m4_verdict_12_ok {X : zX} {G : zG} (Hy : zHy X G q4_verdict zcC 5 116 (some .int)) {r : Int32} {M' : cM} (hE : zEnd X G (some (.inl r)) (zfC M')) : ∀ (n : Nat) (x1 : Int32) (x2 : Int32) (x3 : Int32) (x4 : Int32) (M : cM), m4_verdict_12 n x1 x2 x3 x4 M = some (r, M') → zGo (X, q4_verdict, G) 0 0 (12, [(0, .inr (.inr (some (4, 0)))), (1, .inl x1), (2, .inl x2), (3, .inl x3), (4, .inl x4)], [], zfC M) := by
  intro n
  induction n with
  | zero => intro x1 x2 x3 x4 M h; cases h
  | succ n ih =>
    intro x1 x2 x3 x4 M h
    unfold m4_verdict_12 at h
    refine zblq Hy.1 Hy.2.1 [(.iload 4, 2), (.iload 1, 1)] (S' := (15, [(0, .inr (.inr (some (4, 0)))), (1, .inl x1), (2, .inl x2), (3, .inl x3), (4, .inl x4)], [.inl x1, .inl x4], zfC M)) (b := true) (by decide +kernel) rfl rfl ?_
    refine zic_ge Hy.1 (off := 38) (tgt := 53) (by decide +kernel) (by decide) (fun hb10 => ?_) (fun hb10 => ?_)
    · replace h := zite_t h hb10
      refine zGo_keep [2, 3] rfl ?_
      exact m4_verdict_53_ok Hy hE x2 x3 M h
    · replace h := zite_f h hb10
      refine zblq Hy.1 Hy.2.1 [(.iload 4, 2), (.iconst 7776, 3)] (S' := (23, [(0, .inr (.inr (some (4, 0)))), (1, .inl x1), (2, .inl x2), (3, .inl x3), (4, .inl x4)], [.inl (7776 : Int32), .inl x4], zfC M)) (b := true) (by decide +kernel) rfl rfl ?_
      refine zic_ge Hy.1 (off := 30) (tgt := 53) (by decide +kernel) (by decide) (fun hb9 => ?_) (fun hb9 => ?_)
      · replace h := zite_t h hb9
        refine zGo_keep [2, 3] rfl ?_
        exact m4_verdict_53_ok Hy hE x2 x3 M h
      · replace h := zite_f h hb9
        obtain ⟨hg6, h⟩ := zgd_inv h
        refine zblq Hy.1 Hy.2.1 [(.aload 0, 1), (.aload 0, 1), (.getfield 410, 3), (.iload 4, 2), (.iaload, 1)] (S' := (34, [(0, .inr (.inr (some (4, 0)))), (1, .inl x1), (2, .inl x2), (3, .inl x3), (4, .inl x4)], [.inl (cg M 510 0 (nx x4)), .inr (.inr (some (4, 0)))], zfC M)) (b := zin x4 7776 && true) (by decide +kernel) rfl hg6 ?_
        obtain ⟨r7, M7, hc7, h⟩ := zbd_inv h
        refine zcallV Hy.1 (as := [.inl (cg M 510 0 (nx x4))]) (st := []) (m4_isSo_met (zOK_G Hy.1) Hy.2.1 hc7) cw4_127 m4_isSo_in m4_isSo_se (by decide) (zhlv Hy.2.1 rfl) rfl (zroom Hy.2.2 ⟨by decide, by decide⟩) rfl (by decide +kernel) ⟨Nat.zero_le _, Nat.zero_le _⟩ ?_
        refine zif_eq Hy.1 (off := 8) (tgt := 45) (by decide +kernel) (by decide) (fun hb8 => ?_) (fun hb8 => ?_)
        · replace h := zite_t h hb8
          refine zblq Hy.1 Hy.2.1 [(.iconst 1, 1), (.istore 3, 1)] (S' := (47, [(0, .inr (.inr (some (4, 0)))), (1, .inl x1), (2, .inl x2), (3, .inl (1 : Int32)), (4, .inl x4)], [], zfC M7)) (b := true) (by decide +kernel) rfl rfl ?_
          refine zGo_keep [0, 1, 2, 3, 4] rfl ?_
          exact m4_verdict_47_ok Hy hE ih x1 x2 (1 : Int32) x4 M7 h
        · replace h := zite_f h hb8
          refine zblq Hy.1 Hy.2.1 [(.iconst 1, 1), (.istore 2, 1), (.ldc 47, 3)] (S' := (47, [(0, .inr (.inr (some (4, 0)))), (1, .inl x1), (2, .inl (1 : Int32)), (3, .inl x3), (4, .inl x4)], [], zfC M7)) (b := true) (by decide +kernel) rfl rfl ?_
          refine zGo_keep [0, 1, 2, 3, 4] rfl ?_
          exact m4_verdict_47_ok Hy hE ih x1 (1 : Int32) x3 x4 M7 h
def m4_verdict  (M : cM) : Option (Int32 × cM) := zbd (m4_listCourses M) (fun r1 M1 => m4_verdict_12 zfu r1 (0 : Int32) (0 : Int32) (0 : Int32) M1)
theorem m4_verdict_ok {X : zX} {G : zG} (Hy : zHy X G q4_verdict zcC 5 116 (some .int)) {r : Int32} {M' : cM} (hE : zEnd X G (some (.inl r)) (zfC M'))  (M : cM) (h : m4_verdict M = some (r, M')) : zGo (X, q4_verdict, G) 0 0 (0, [(0, .inr (.inr (some (4, 0))))], [], zfC M) := by
  unfold m4_verdict at h
  refine zblq Hy.1 Hy.2.1 [(.aload 0, 1)] (S' := (1, [(0, .inr (.inr (some (4, 0))))], [.inr (.inr (some (4, 0)))], zfC M)) (b := true) (by decide +kernel) rfl rfl ?_
  obtain ⟨r1, M1, hc1, h⟩ := zbd_inv h
  refine zcallV Hy.1 (as := []) (st := []) (m4_listCourses_met (zOK_G Hy.1) Hy.2.1 hc1) cw4_123 m4_listCourses_in m4_listCourses_se (by decide) (zhlv Hy.2.1 rfl) rfl (zroom Hy.2.2 ⟨by decide, by decide⟩) rfl (by decide +kernel) ⟨Nat.zero_le _, Nat.zero_le _⟩ ?_
  refine zblq Hy.1 Hy.2.1 [(.istore 1, 1), (.iconst 0, 1), (.istore 2, 1), (.iconst 0, 1), (.istore 3, 1), (.iconst 0, 1), (.istore 4, 2)] (S' := (12, [(0, .inr (.inr (some (4, 0)))), (1, .inl r1), (2, .inl (0 : Int32)), (3, .inl (0 : Int32)), (4, .inl (0 : Int32))], [], zfC M1)) (b := true) (by decide +kernel) rfl rfl ?_
  refine zGo_keep [0, 1, 2, 3, 4] rfl ?_
  exact m4_verdict_12_ok Hy hE zfu r1 (0 : Int32) (0 : Int32) (0 : Int32) M1 h
theorem m4_verdict_met {l : Launch} {G : zG} (hG : zGok G) (hcn : zgcn G = zcC)  {M : cM} {r : Int32} {M' : cM} (h : m4_verdict M = some (r, M')) : zMet l G yX4_verdict cX4_verdict 5 (some .int) 5 116 [.inr (.inr (some (4, 0)))] (zfC M) (some (.inl r)) (zfC M') :=
  zMet_of hG tbX4_ok rfl (by decide +kernel) (Nat.le_of_ble_eq_true rfl) (fun X _ Z hA hE => m4_verdict_ok ⟨Z, hcn, hA⟩ hE M h)
abbrev q11_judge : ByteArray × Nat × String × zT := (cX11_judge, 7, RX11, tbX11)
def m11_judge (x1 : Int32) (x2 : Int32) (x3 : Int32) (x4 : Int32) (x5 : Int32) (M : cM) : Option (Int32 × cM) := zbd (m11_refusedClaim x1 x2 x3 x4 x5 M) (fun r1 M1 => (if 0 ≤ r1 then zbv (m4_claim x1 x2 x3 x4 x5 M1) (fun M2 => zbd (m4_verdict M2) (fun r3 M3 => some (r3, M3))) else some (r1, M1)))
theorem m11_judge_ok {X : zX} {G : zG} (Hy : zHy X G q11_judge zcC 6 140 (some .int)) {r : Int32} {M' : cM} (hE : zEnd X G (some (.inl r)) (zfC M')) (x1 : Int32) (x2 : Int32) (x3 : Int32) (x4 : Int32) (x5 : Int32) (M : cM) (h : m11_judge x1 x2 x3 x4 x5 M = some (r, M')) : zGo (X, q11_judge, G) 0 0 (0, [(0, .inr (.inr (some (11, 0)))), (1, .inl x1), (2, .inl x2), (3, .inl x3), (4, .inl x4), (5, .inl x5)], [], zfC M) := by
  unfold m11_judge at h
  refine zblq Hy.1 Hy.2.1 [(.aload 0, 1), (.iload 1, 1), (.iload 2, 1), (.iload 3, 1), (.iload 4, 2), (.iload 5, 2)] (S' := (8, [(0, .inr (.inr (some (11, 0)))), (1, .inl x1), (2, .inl x2), (3, .inl x3), (4, .inl x4), (5, .inl x5)], [.inl x5, .inl x4, .inl x3, .inl x2, .inl x1, .inr (.inr (some (11, 0)))], zfC M)) (b := true) (by decide +kernel) rfl rfl ?_
  obtain ⟨r1, M1, hc1, h⟩ := zbd_inv h
  refine zcallV Hy.1 (as := [.inl x1, .inl x2, .inl x3, .inl x4, .inl x5]) (st := []) (m11_refusedClaim_met (zOK_G Hy.1) Hy.2.1 hc1) cw11_328 m11_refusedClaim_in m11_refusedClaim_se (by decide) (zhlv Hy.2.1 rfl) rfl (zroom Hy.2.2 ⟨by decide, by decide⟩) rfl (by decide +kernel) ⟨Nat.zero_le _, Nat.zero_le _⟩ ?_
  refine zblq Hy.1 Hy.2.1 [(.istore 6, 2), (.iload 6, 2)] (S' := (15, [(0, .inr (.inr (some (11, 0)))), (1, .inl x1), (2, .inl x2), (3, .inl x3), (4, .inl x4), (5, .inl x5), (6, .inl r1)], [.inl r1], zfC M1)) (b := true) (by decide +kernel) rfl rfl ?_
  refine zif_ge Hy.1 (off := 6) (tgt := 21) (by decide +kernel) (by decide) (fun hb4 => ?_) (fun hb4 => ?_)
  · replace h := zite_t h hb4
    refine zblq Hy.1 Hy.2.1 [(.aload 0, 1), (.getfield 1106, 3), (.iload 1, 1), (.iload 2, 1), (.iload 3, 1), (.iload 4, 2), (.iload 5, 2)] (S' := (32, [(0, .inr (.inr (some (11, 0)))), (1, .inl x1), (2, .inl x2), (3, .inl x3), (4, .inl x4), (5, .inl x5), (6, .inl r1)], [.inl x5, .inl x4, .inl x3, .inl x2, .inl x1, .inr (.inr (some (4, 0)))], zfC M1)) (b := true) (by decide +kernel) rfl rfl ?_
    obtain ⟨M2, hc2, h⟩ := zbv_inv h
    refine zcallV Hy.1 (as := [.inl x1, .inl x2, .inl x3, .inl x4, .inl x5]) (st := []) (m4_claim_met (zOK_G Hy.1) Hy.2.1 hc2) cw11_331 m4_claim_in m4_claim_se (by decide) (zhlv Hy.2.1 rfl) rfl (zroom Hy.2.2 ⟨by decide, by decide⟩) rfl (by decide +kernel) ⟨Nat.zero_le _, Nat.zero_le _⟩ ?_
    refine zblq Hy.1 Hy.2.1 [(.aload 0, 1), (.getfield 1106, 3)] (S' := (39, [(0, .inr (.inr (some (11, 0)))), (1, .inl x1), (2, .inl x2), (3, .inl x3), (4, .inl x4), (5, .inl x5), (6, .inl r1)], [.inr (.inr (some (4, 0)))], zfC M2)) (b := true) (by decide +kernel) rfl rfl ?_
    obtain ⟨r3, M3, hc3, h⟩ := zbd_inv h
    refine zcallV Hy.1 (as := []) (st := []) (m4_verdict_met (zOK_G Hy.1) Hy.2.1 hc3) cw11_335 m4_verdict_in m4_verdict_se (by decide) (zhlv Hy.2.1 rfl) rfl (zroom Hy.2.2 ⟨by decide, by decide⟩) rfl (by decide +kernel) ⟨Nat.zero_le _, Nat.zero_le _⟩ ?_
    cases h
    exact zret_i Hy.1 Hy.2.2 hE (by decide +kernel)
  · replace h := zite_f h hb4
    refine zblq Hy.1 Hy.2.1 [(.iload 6, 2)] (S' := (20, [(0, .inr (.inr (some (11, 0)))), (1, .inl x1), (2, .inl x2), (3, .inl x3), (4, .inl x4), (5, .inl x5), (6, .inl r1)], [.inl r1], zfC M1)) (b := true) (by decide +kernel) rfl rfl ?_
    cases h
    exact zret_i Hy.1 Hy.2.2 hE (by decide +kernel)
theorem m11_judge_met {l : Launch} {G : zG} (hG : zGok G) (hcn : zgcn G = zcC) {x1 : Int32} {x2 : Int32} {x3 : Int32} {x4 : Int32} {x5 : Int32} {M : cM} {r : Int32} {M' : cM} (h : m11_judge x1 x2 x3 x4 x5 M = some (r, M')) : zMet l G yX11_judge cX11_judge 7 (some .int) 6 140 [.inr (.inr (some (11, 0))), .inl x1, .inl x2, .inl x3, .inl x4, .inl x5] (zfC M) (some (.inl r)) (zfC M') :=
  zMet_of hG tbX11_ok rfl (by decide +kernel) (Nat.le_of_ble_eq_true rfl) (fun X _ Z hA hE => m11_judge_ok ⟨Z, hcn, hA⟩ hE x1 x2 x3 x4 x5 M h)
abbrev q4_leastAround : ByteArray × Nat × String × zT := (cX4_leastAround, 4, RX4, tbX4)
def m4_leastAround_31 (k5 : Int32 → Int32 → Int32 → cM → Option (Int32 × cM)) (x1 : Int32) (x2 : Int32) (x3 : Int32) (M : cM) : Option (Int32 × cM) := k5 x1 x2 (x3 + (1 : Int32)) M
theorem m4_leastAround_31_ok {X : zX} {G : zG} (Hy : zHy X G q4_leastAround zcC 2 43 (some .int)) {r : Int32} {M' : cM} (hE : zEnd X G (some (.inl r)) (zfC M')) {k5 : Int32 → Int32 → Int32 → cM → Option (Int32 × cM)} (hk5 : ∀ (x1 : Int32) (x2 : Int32) (x3 : Int32) (M : cM), k5 x1 x2 x3 M = some (r, M') → zGo (X, q4_leastAround, G) 0 0 (5, [(0, .inr (.inr (some (4, 0)))), (1, .inl x1), (2, .inl x2), (3, .inl x3)], [], zfC M)) (x1 : Int32) (x2 : Int32) (x3 : Int32) (M : cM) (h : m4_leastAround_31 k5 x1 x2 x3 M = some (r, M')) : zGo (X, q4_leastAround, G) 0 0 (31, [(0, .inr (.inr (some (4, 0)))), (1, .inl x1), (2, .inl x2), (3, .inl x3)], [], zfC M) := by
  unfold m4_leastAround_31 at h
  refine zblq Hy.1 Hy.2.1 [(.iinc 3 1, 3), (.ldc 5, 3)] (S' := (5, [(0, .inr (.inr (some (4, 0)))), (1, .inl x1), (2, .inl x2), (3, .inl (x3 + (1 : Int32)))], [], zfC M)) (b := true) (by decide +kernel) rfl rfl ?_
  refine zGo_keep [0, 1, 2, 3] rfl ?_
  exact hk5 x1 x2 (x3 + (1 : Int32)) M h
def m4_leastAround_5 : Nat → Int32 → Int32 → Int32 → cM → Option (Int32 × cM)
  | 0, _, _, _, _ => none
  | n + 1, x1, x2, x3, M => (if (6 : Int32) ≤ x3 then some (x2, M) else zbd (m4_mayGo x3 x1 M) (fun r1 M1 => (if r1 = 0 then m4_leastAround_31 (m4_leastAround_5 n) x1 x2 x3 M1 else zgd ((Nat.blt (cp M1 4 0 8) 2 && zin x3 6) && true) (zbd (mJ9_min x2 (cg M1 508 (cp M1 4 0 8) (nx x3)) M1) (fun r3 M3 => m4_leastAround_31 (m4_leastAround_5 n) x1 r3 x3 M3)))))
theorem m4_leastAround_5_ok {X : zX} {G : zG} (Hy : zHy X G q4_leastAround zcC 2 43 (some .int)) {r : Int32} {M' : cM} (hE : zEnd X G (some (.inl r)) (zfC M')) : ∀ (n : Nat) (x1 : Int32) (x2 : Int32) (x3 : Int32) (M : cM), m4_leastAround_5 n x1 x2 x3 M = some (r, M') → zGo (X, q4_leastAround, G) 0 0 (5, [(0, .inr (.inr (some (4, 0)))), (1, .inl x1), (2, .inl x2), (3, .inl x3)], [], zfC M) := by
  intro n
  induction n with
  | zero => intro x1 x2 x3 M h; cases h
  | succ n ih =>
    intro x1 x2 x3 M h
    unfold m4_leastAround_5 at h
    refine zblq Hy.1 Hy.2.1 [(.iload 3, 1), (.iconst 6, 2)] (S' := (8, [(0, .inr (.inr (some (4, 0)))), (1, .inl x1), (2, .inl x2), (3, .inl x3)], [.inl (6 : Int32), .inl x3], zfC M)) (b := true) (by decide +kernel) rfl rfl ?_
    refine zic_ge Hy.1 (off := 29) (tgt := 37) (by decide +kernel) (by decide) (fun hb5 => ?_) (fun hb5 => ?_)
    · replace h := zite_t h hb5
      refine zblq Hy.1 Hy.2.1 [(.iload 2, 1)] (S' := (38, [(0, .inr (.inr (some (4, 0)))), (1, .inl x1), (2, .inl x2), (3, .inl x3)], [.inl x2], zfC M)) (b := true) (by decide +kernel) rfl rfl ?_
      cases h
      exact zret_i Hy.1 Hy.2.2 hE (by decide +kernel)
    · replace h := zite_f h hb5
      refine zblq Hy.1 Hy.2.1 [(.aload 0, 1), (.iload 3, 1), (.iload 1, 1)] (S' := (14, [(0, .inr (.inr (some (4, 0)))), (1, .inl x1), (2, .inl x2), (3, .inl x3)], [.inl x1, .inl x3, .inr (.inr (some (4, 0)))], zfC M)) (b := true) (by decide +kernel) rfl rfl ?_
      obtain ⟨r1, M1, hc1, h⟩ := zbd_inv h
      refine zcallV Hy.1 (as := [.inl x3, .inl x1]) (st := []) (m4_mayGo_met (zOK_G Hy.1) Hy.2.1 hc1) cw4_99 m4_mayGo_in m4_mayGo_se (by decide) (zhlv Hy.2.1 rfl) rfl (zroom Hy.2.2 ⟨by decide, by decide⟩) rfl (by decide +kernel) ⟨Nat.zero_le _, Nat.zero_le _⟩ ?_
      refine zif_eq Hy.1 (off := 14) (tgt := 31) (by decide +kernel) (by decide) (fun hb4 => ?_) (fun hb4 => ?_)
      · replace h := zite_t h hb4
        refine zGo_keep [0, 1, 2, 3] rfl ?_
        exact m4_leastAround_31_ok Hy hE ih x1 x2 x3 M1 h
      · replace h := zite_f h hb4
        obtain ⟨hg2, h⟩ := zgd_inv h
        refine zblq Hy.1 Hy.2.1 [(.iload 2, 1), (.aload 0, 1), (.getfield 408, 3), (.iload 3, 1), (.iaload, 1)] (S' := (27, [(0, .inr (.inr (some (4, 0)))), (1, .inl x1), (2, .inl x2), (3, .inl x3)], [.inl (cg M1 508 (cp M1 4 0 8) (nx x3)), .inl x2], zfC M1)) (b := (Nat.blt (cp M1 4 0 8) 2 && zin x3 6) && true) (by decide +kernel) rfl hg2 ?_
        obtain ⟨r3, M3, hc3, h⟩ := zbd_inv h
        refine zcallS Hy.1 (as := [.inl x2, .inl (cg M1 508 (cp M1 4 0 8) (nx x3))]) (st := []) (mJ9_min_met (zOK_G Hy.1) Hy.2.1 hc3) cw4_94 mJ9_min_in rfl (zroom Hy.2.2 ⟨by decide, by decide⟩) rfl (by decide +kernel) ⟨Nat.zero_le _, Nat.zero_le _⟩ ?_
        refine zblq Hy.1 Hy.2.1 [(.istore 2, 1)] (S' := (31, [(0, .inr (.inr (some (4, 0)))), (1, .inl x1), (2, .inl r3), (3, .inl x3)], [], zfC M3)) (b := true) (by decide +kernel) rfl rfl ?_
        refine zGo_keep [0, 1, 2, 3] rfl ?_
        exact m4_leastAround_31_ok Hy hE ih x1 r3 x3 M3 h
def m4_leastAround (x1 : Int32) (M : cM) : Option (Int32 × cM) := m4_leastAround_5 zfu x1 (100 : Int32) (0 : Int32) M
theorem m4_leastAround_ok {X : zX} {G : zG} (Hy : zHy X G q4_leastAround zcC 2 43 (some .int)) {r : Int32} {M' : cM} (hE : zEnd X G (some (.inl r)) (zfC M')) (x1 : Int32) (M : cM) (h : m4_leastAround x1 M = some (r, M')) : zGo (X, q4_leastAround, G) 0 0 (0, [(0, .inr (.inr (some (4, 0)))), (1, .inl x1)], [], zfC M) := by
  unfold m4_leastAround at h
  refine zblq Hy.1 Hy.2.1 [(.iconst 100, 2), (.istore 2, 1), (.iconst 0, 1), (.istore 3, 1)] (S' := (5, [(0, .inr (.inr (some (4, 0)))), (1, .inl x1), (2, .inl (100 : Int32)), (3, .inl (0 : Int32))], [], zfC M)) (b := true) (by decide +kernel) rfl rfl ?_
  refine zGo_keep [0, 1, 2, 3] rfl ?_
  exact m4_leastAround_5_ok Hy hE zfu x1 (100 : Int32) (0 : Int32) M h
theorem m4_leastAround_met {l : Launch} {G : zG} (hG : zGok G) (hcn : zgcn G = zcC) {x1 : Int32} {M : cM} {r : Int32} {M' : cM} (h : m4_leastAround x1 M = some (r, M')) : zMet l G yX4_leastAround cX4_leastAround 4 (some .int) 2 43 [.inr (.inr (some (4, 0))), .inl x1] (zfC M) (some (.inl r)) (zfC M') :=
  zMet_of hG tbX4_ok rfl (by decide +kernel) (Nat.le_of_ble_eq_true rfl) (fun X _ Z hA hE => m4_leastAround_ok ⟨Z, hcn, hA⟩ hE x1 M h)
abbrev q4_someAgrees : ByteArray × Nat × String × zT := (cX4_someAgrees, 4, RX4, tbX4)
def m4_someAgrees_102 : Nat → Int32 → Int32 → cM → Option (Int32 × cM)
  | 0, _, _, _ => none
  | n + 1, x2, x3, M => (if (6 : Int32) ≤ x3 then zbd (m3_setting (6 : Int32) M) (fun r2 M2 => (if r2 < x2 then some ((0 : Int32), M2) else some ((1 : Int32), M2))) else zgd ((Nat.blt (cp M 4 0 8) 2 && zin x3 6) && true) (zbd (mJ9_min x2 (cg M 508 (cp M 4 0 8) (nx x3)) M) (fun r5 M5 => (m4_someAgrees_102 n) r5 (x3 + (1 : Int32)) M5)))
theorem m4_someAgrees_102_ok {X : zX} {G : zG} (Hy : zHy X G q4_someAgrees zcC 4 93 (some .boolean)) {r : Int32} {M' : cM} (hE : zEnd X G (some (.inl r)) (zfC M')) : ∀ (n : Nat) (x2 : Int32) (x3 : Int32) (M : cM), m4_someAgrees_102 n x2 x3 M = some (r, M') → zGo (X, q4_someAgrees, G) 0 0 (102, [(0, .inr (.inr (some (4, 0)))), (2, .inl x2), (3, .inl x3)], [], zfC M) := by
  intro n
  induction n with
  | zero => intro x2 x3 M h; cases h
  | succ n ih =>
    intro x2 x3 M h
    unfold m4_someAgrees_102 at h
    refine zblq Hy.1 Hy.2.1 [(.iload 3, 1), (.iconst 6, 2)] (S' := (105, [(0, .inr (.inr (some (4, 0)))), (2, .inl x2), (3, .inl x3)], [.inl (6 : Int32), .inl x3], zfC M)) (b := true) (by decide +kernel) rfl rfl ?_
    refine zic_ge Hy.1 (off := 20) (tgt := 125) (by decide +kernel) (by decide) (fun hb6 => ?_) (fun hb6 => ?_)
    · replace h := zite_t h hb6
      refine zblq Hy.1 Hy.2.1 [(.iload 2, 1), (.aload 0, 1), (.getfield 400, 3), (.iconst 6, 2)] (S' := (132, [(0, .inr (.inr (some (4, 0)))), (2, .inl x2), (3, .inl x3)], [.inl (6 : Int32), .inr (.inr (some (3, 0))), .inl x2], zfC M)) (b := true) (by decide +kernel) rfl rfl ?_
      obtain ⟨r2, M2, hc2, h⟩ := zbd_inv h
      refine zcallV Hy.1 (as := [.inl (6 : Int32)]) (st := [.inl x2]) (m3_setting_met (zOK_G Hy.1) Hy.2.1 hc2) cw4_84 m3_setting_in m3_setting_se (by decide) (zhlv Hy.2.1 rfl) rfl (zroom Hy.2.2 ⟨by decide, by decide⟩) rfl (by decide +kernel) ⟨Nat.zero_le _, Nat.zero_le _⟩ ?_
      refine zic_gt Hy.1 (off := 7) (tgt := 142) (by decide +kernel) (by decide) (fun hb3 => ?_) (fun hb3 => ?_)
      · replace h := zite_t h hb3
        refine zblq Hy.1 Hy.2.1 [(.iconst 0, 1)] (S' := (143, [(0, .inr (.inr (some (4, 0)))), (2, .inl x2), (3, .inl x3)], [.inl (0 : Int32)], zfC M2)) (b := true) (by decide +kernel) rfl rfl ?_
        cases h
        exact zret_z Hy.1 Hy.2.2 (by decide) hE (by decide +kernel)
      · replace h := zite_f h hb3
        refine zblq Hy.1 Hy.2.1 [(.iconst 1, 1), (.ldc 143, 3)] (S' := (143, [(0, .inr (.inr (some (4, 0)))), (2, .inl x2), (3, .inl x3)], [.inl (1 : Int32)], zfC M2)) (b := true) (by decide +kernel) rfl rfl ?_
        cases h
        exact zret_z Hy.1 Hy.2.2 (by decide) hE (by decide +kernel)
    · replace h := zite_f h hb6
      obtain ⟨hg4, h⟩ := zgd_inv h
      refine zblq Hy.1 Hy.2.1 [(.iload 2, 1), (.aload 0, 1), (.getfield 408, 3), (.iload 3, 1), (.iaload, 1)] (S' := (115, [(0, .inr (.inr (some (4, 0)))), (2, .inl x2), (3, .inl x3)], [.inl (cg M 508 (cp M 4 0 8) (nx x3)), .inl x2], zfC M)) (b := (Nat.blt (cp M 4 0 8) 2 && zin x3 6) && true) (by decide +kernel) rfl hg4 ?_
      obtain ⟨r5, M5, hc5, h⟩ := zbd_inv h
      refine zcallS Hy.1 (as := [.inl x2, .inl (cg M 508 (cp M 4 0 8) (nx x3))]) (st := []) (mJ9_min_met (zOK_G Hy.1) Hy.2.1 hc5) cw4_94 mJ9_min_in rfl (zroom Hy.2.2 ⟨by decide, by decide⟩) rfl (by decide +kernel) ⟨Nat.zero_le _, Nat.zero_le _⟩ ?_
      refine zblq Hy.1 Hy.2.1 [(.istore 2, 1), (.iinc 3 1, 3), (.ldc 102, 3)] (S' := (102, [(0, .inr (.inr (some (4, 0)))), (2, .inl r5), (3, .inl (x3 + (1 : Int32)))], [], zfC M5)) (b := true) (by decide +kernel) rfl rfl ?_
      refine zGo_keep [0, 2, 3] rfl ?_
      exact ih r5 (x3 + (1 : Int32)) M5 h
def m4_someAgrees_43 (k33 : Int32 → cM → Option (Int32 × cM)) : Nat → Int32 → Int32 → cM → Option (Int32 × cM)
  | 0, _, _, _ => none
  | n + 1, x2, x3, M => (if (6 : Int32) ≤ x3 then k33 (x2 + (1 : Int32)) (cps (cps M 4 0 8 (cp M 4 0 9)) 4 0 9 (cp M 4 0 8)) else zbd (m4_leastAround x3 M) (fun r7 M7 => zbd (m4_missedAt x2 x3 M7) (fun r8 M8 => zgd ((Nat.blt (cp M 4 0 9) 2 && zin x3 6) && true) ((m4_someAgrees_43 k33 n) x2 (x3 + (1 : Int32)) (cs M8 508 (cp M 4 0 9) (nx x3) (r7 + r8))))))
theorem m4_someAgrees_43_ok {X : zX} {G : zG} (Hy : zHy X G q4_someAgrees zcC 4 93 (some .boolean)) {r : Int32} {M' : cM} (hE : zEnd X G (some (.inl r)) (zfC M')) {k33 : Int32 → cM → Option (Int32 × cM)} (hk33 : ∀ (x2 : Int32) (M : cM), k33 x2 M = some (r, M') → zGo (X, q4_someAgrees, G) 0 0 (33, [(0, .inr (.inr (some (4, 0)))), (2, .inl x2)], [], zfC M)) : ∀ (n : Nat) (x2 : Int32) (x3 : Int32) (M : cM), m4_someAgrees_43 k33 n x2 x3 M = some (r, M') → zGo (X, q4_someAgrees, G) 0 0 (43, [(0, .inr (.inr (some (4, 0)))), (2, .inl x2), (3, .inl x3)], [], zfC M) := by
  intro n
  induction n with
  | zero => intro x2 x3 M h; cases h
  | succ n ih =>
    intro x2 x3 M h
    unfold m4_someAgrees_43 at h
    refine zblq Hy.1 Hy.2.1 [(.iload 3, 1), (.iconst 6, 2)] (S' := (46, [(0, .inr (.inr (some (4, 0)))), (2, .inl x2), (3, .inl x3)], [.inl (6 : Int32), .inl x3], zfC M)) (b := true) (by decide +kernel) rfl rfl ?_
    refine zic_ge Hy.1 (off := 27) (tgt := 73) (by decide +kernel) (by decide) (fun hb10 => ?_) (fun hb10 => ?_)
    · replace h := zite_t h hb10
      refine zblq Hy.1 Hy.2.1 [(.aload 0, 1), (.getfield 408, 3), (.astore 3, 1), (.aload 0, 1), (.aload 0, 1), (.getfield 409, 3)] (S' := (83, [(0, .inr (.inr (some (4, 0)))), (2, .inl x2), (3, .inr (.inr (some (508, (cp M 4 0 8)))))], [.inr (.inr (some (508, (cp M 4 0 9)))), .inr (.inr (some (4, 0)))], zfC M)) (b := true) (by decide +kernel) rfl rfl ?_
      refine z_putref Hy.1 Hy.2.1 (slot := 8) (idx := 31) (Or.inl rfl) (by decide +kernel) rfl ?_
      refine zblq Hy.1 Hy.2.1 [(.aload 0, 1), (.aload 3, 1)] (S' := (88, [(0, .inr (.inr (some (4, 0)))), (2, .inl x2), (3, .inr (.inr (some (508, (cp M 4 0 8)))))], [.inr (.inr (some (508, (cp M 4 0 8)))), .inr (.inr (some (4, 0)))], zfC (cps M 4 0 8 (cp M 4 0 9)))) (b := true) (by decide +kernel) rfl rfl ?_
      refine z_putref Hy.1 Hy.2.1 (slot := 9) (idx := 34) (Or.inr rfl) (by decide +kernel) rfl ?_
      refine zblq Hy.1 Hy.2.1 [(.iinc 2 1, 3), (.ldc 33, 3)] (S' := (33, [(0, .inr (.inr (some (4, 0)))), (2, .inl (x2 + (1 : Int32))), (3, .inr (.inr (some (508, (cp M 4 0 8)))))], [], zfC (cps (cps M 4 0 8 (cp M 4 0 9)) 4 0 9 (cp M 4 0 8)))) (b := true) (by decide +kernel) rfl rfl ?_
      refine zGo_keep [0, 2] rfl ?_
      exact hk33 (x2 + (1 : Int32)) (cps (cps M 4 0 8 (cp M 4 0 9)) 4 0 9 (cp M 4 0 8)) h
    · replace h := zite_f h hb10
      refine zblq Hy.1 Hy.2.1 [(.aload 0, 1), (.getfield 409, 3), (.iload 3, 1), (.aload 0, 1), (.iload 3, 1)] (S' := (56, [(0, .inr (.inr (some (4, 0)))), (2, .inl x2), (3, .inl x3)], [.inl x3, .inr (.inr (some (4, 0))), .inl x3, .inr (.inr (some (508, (cp M 4 0 9))))], zfC M)) (b := true) (by decide +kernel) rfl rfl ?_
      obtain ⟨r7, M7, hc7, h⟩ := zbd_inv h
      refine zcallV Hy.1 (as := [.inl x3]) (st := [.inl x3, .inr (.inr (some (508, (cp M 4 0 9))))]) (m4_leastAround_met (zOK_G Hy.1) Hy.2.1 hc7) cw4_138 m4_leastAround_in m4_leastAround_se (by decide) (zhlv Hy.2.1 rfl) rfl (zroom Hy.2.2 ⟨by decide, by decide⟩) rfl (by decide +kernel) ⟨Nat.zero_le _, Nat.zero_le _⟩ ?_
      refine zblq Hy.1 Hy.2.1 [(.aload 0, 1), (.iload 2, 1), (.iload 3, 1)] (S' := (62, [(0, .inr (.inr (some (4, 0)))), (2, .inl x2), (3, .inl x3)], [.inl x3, .inl x2, .inr (.inr (some (4, 0))), .inl r7, .inl x3, .inr (.inr (some (508, (cp M 4 0 9))))], zfC M7)) (b := true) (by decide +kernel) rfl rfl ?_
      obtain ⟨r8, M8, hc8, h⟩ := zbd_inv h
      refine zcallV Hy.1 (as := [.inl x2, .inl x3]) (st := [.inl r7, .inl x3, .inr (.inr (some (508, (cp M 4 0 9))))]) (m4_missedAt_met (zOK_G Hy.1) Hy.2.1 hc8) cw4_88 m4_missedAt_in m4_missedAt_se (by decide) (zhlv Hy.2.1 rfl) rfl (zroom Hy.2.2 ⟨by decide, by decide⟩) rfl (by decide +kernel) ⟨Nat.zero_le _, Nat.zero_le _⟩ ?_
      obtain ⟨hg9, h⟩ := zgd_inv h
      refine zblq Hy.1 Hy.2.1 [(.iadd, 1), (.iastore, 1), (.iinc 3 1, 3), (.ldc 43, 3)] (S' := (43, [(0, .inr (.inr (some (4, 0)))), (2, .inl x2), (3, .inl (x3 + (1 : Int32)))], [], zfC (cs M8 508 (cp M 4 0 9) (nx x3) (r7 + r8)))) (b := (Nat.blt (cp M 4 0 9) 2 && zin x3 6) && true) (by decide +kernel) rfl hg9 ?_
      refine zGo_keep [0, 2, 3] rfl ?_
      exact ih x2 (x3 + (1 : Int32)) (cs M8 508 (cp M 4 0 9) (nx x3) (r7 + r8)) h
def m4_someAgrees_33 : Nat → Int32 → cM → Option (Int32 × cM)
  | 0, _, _ => none
  | n + 1, x2, M => (if (cg M 4 0 1) ≤ x2 then m4_someAgrees_102 zfu (100 : Int32) (0 : Int32) M else m4_someAgrees_43 (m4_someAgrees_33 n) zfu x2 (0 : Int32) M)
theorem m4_someAgrees_33_ok {X : zX} {G : zG} (Hy : zHy X G q4_someAgrees zcC 4 93 (some .boolean)) {r : Int32} {M' : cM} (hE : zEnd X G (some (.inl r)) (zfC M')) : ∀ (n : Nat) (x2 : Int32) (M : cM), m4_someAgrees_33 n x2 M = some (r, M') → zGo (X, q4_someAgrees, G) 0 0 (33, [(0, .inr (.inr (some (4, 0)))), (2, .inl x2)], [], zfC M) := by
  intro n
  induction n with
  | zero => intro x2 M h; cases h
  | succ n ih =>
    intro x2 M h
    unfold m4_someAgrees_33 at h
    refine zblq Hy.1 Hy.2.1 [(.iload 2, 1), (.aload 0, 1), (.multianewarray 4 1, 3)] (S' := (38, [(0, .inr (.inr (some (4, 0)))), (2, .inl x2)], [.inl (cg M 4 0 1), .inl x2], zfC M)) (b := true) (by decide +kernel) rfl rfl ?_
    refine zic_ge Hy.1 (off := 59) (tgt := 97) (by decide +kernel) (by decide) (fun hb11 => ?_) (fun hb11 => ?_)
    · replace h := zite_t h hb11
      refine zblq Hy.1 Hy.2.1 [(.iconst 100, 2), (.istore 2, 1), (.iconst 0, 1), (.istore 3, 1)] (S' := (102, [(0, .inr (.inr (some (4, 0)))), (2, .inl (100 : Int32)), (3, .inl (0 : Int32))], [], zfC M)) (b := true) (by decide +kernel) rfl rfl ?_
      refine zGo_keep [0, 2, 3] rfl ?_
      exact m4_someAgrees_102_ok Hy hE zfu (100 : Int32) (0 : Int32) M h
    · replace h := zite_f h hb11
      refine zblq Hy.1 Hy.2.1 [(.iconst 0, 1), (.istore 3, 1)] (S' := (43, [(0, .inr (.inr (some (4, 0)))), (2, .inl x2), (3, .inl (0 : Int32))], [], zfC M)) (b := true) (by decide +kernel) rfl rfl ?_
      refine zGo_keep [0, 2, 3] rfl ?_
      exact m4_someAgrees_43_ok Hy hE ih zfu x2 (0 : Int32) M h
def m4_someAgrees_7 : Nat → Int32 → cM → Option (Int32 × cM)
  | 0, _, _ => none
  | n + 1, x2, M => (if (6 : Int32) ≤ x2 then m4_someAgrees_33 zfu (1 : Int32) M else zbd (m4_missedAt (0 : Int32) x2 M) (fun r12 M12 => zgd ((Nat.blt (cp M 4 0 8) 2 && zin x2 6) && true) ((m4_someAgrees_7 n) (x2 + (1 : Int32)) (cs M12 508 (cp M 4 0 8) (nx x2) r12))))
theorem m4_someAgrees_7_ok {X : zX} {G : zG} (Hy : zHy X G q4_someAgrees zcC 4 93 (some .boolean)) {r : Int32} {M' : cM} (hE : zEnd X G (some (.inl r)) (zfC M')) : ∀ (n : Nat) (x2 : Int32) (M : cM), m4_someAgrees_7 n x2 M = some (r, M') → zGo (X, q4_someAgrees, G) 0 0 (7, [(0, .inr (.inr (some (4, 0)))), (2, .inl x2)], [], zfC M) := by
  intro n
  induction n with
  | zero => intro x2 M h; cases h
  | succ n ih =>
    intro x2 M h
    unfold m4_someAgrees_7 at h
    refine zblq Hy.1 Hy.2.1 [(.iload 2, 1), (.iconst 6, 2)] (S' := (10, [(0, .inr (.inr (some (4, 0)))), (2, .inl x2)], [.inl (6 : Int32), .inl x2], zfC M)) (b := true) (by decide +kernel) rfl rfl ?_
    refine zic_ge Hy.1 (off := 21) (tgt := 31) (by decide +kernel) (by decide) (fun hb14 => ?_) (fun hb14 => ?_)
    · replace h := zite_t h hb14
      refine zblq Hy.1 Hy.2.1 [(.iconst 1, 1), (.istore 2, 1)] (S' := (33, [(0, .inr (.inr (some (4, 0)))), (2, .inl (1 : Int32))], [], zfC M)) (b := true) (by decide +kernel) rfl rfl ?_
      refine zGo_keep [0, 2] rfl ?_
      exact m4_someAgrees_33_ok Hy hE zfu (1 : Int32) M h
    · replace h := zite_f h hb14
      refine zblq Hy.1 Hy.2.1 [(.aload 0, 1), (.getfield 408, 3), (.iload 2, 1), (.aload 0, 1), (.iconst 0, 1), (.iload 2, 1)] (S' := (21, [(0, .inr (.inr (some (4, 0)))), (2, .inl x2)], [.inl x2, .inl (0 : Int32), .inr (.inr (some (4, 0))), .inl x2, .inr (.inr (some (508, (cp M 4 0 8))))], zfC M)) (b := true) (by decide +kernel) rfl rfl ?_
      obtain ⟨r12, M12, hc12, h⟩ := zbd_inv h
      refine zcallV Hy.1 (as := [.inl (0 : Int32), .inl x2]) (st := [.inl x2, .inr (.inr (some (508, (cp M 4 0 8))))]) (m4_missedAt_met (zOK_G Hy.1) Hy.2.1 hc12) cw4_88 m4_missedAt_in m4_missedAt_se (by decide) (zhlv Hy.2.1 rfl) rfl (zroom Hy.2.2 ⟨by decide, by decide⟩) rfl (by decide +kernel) ⟨Nat.zero_le _, Nat.zero_le _⟩ ?_
      obtain ⟨hg13, h⟩ := zgd_inv h
      refine zblq Hy.1 Hy.2.1 [(.iastore, 1), (.iinc 2 1, 3), (.ldc 7, 3)] (S' := (7, [(0, .inr (.inr (some (4, 0)))), (2, .inl (x2 + (1 : Int32)))], [], zfC (cs M12 508 (cp M 4 0 8) (nx x2) r12))) (b := (Nat.blt (cp M 4 0 8) 2 && zin x2 6) && true) (by decide +kernel) rfl hg13 ?_
      refine zGo_keep [0, 2] rfl ?_
      exact ih (x2 + (1 : Int32)) (cs M12 508 (cp M 4 0 8) (nx x2) r12) h
def m4_someAgrees (x1 : Int32) (M : cM) : Option (Int32 × cM) := zbv (m4_weighSpots x1 M) (fun M1 => m4_someAgrees_7 zfu (0 : Int32) M1)
theorem m4_someAgrees_ok {X : zX} {G : zG} (Hy : zHy X G q4_someAgrees zcC 4 93 (some .boolean)) {r : Int32} {M' : cM} (hE : zEnd X G (some (.inl r)) (zfC M')) (x1 : Int32) (M : cM) (h : m4_someAgrees x1 M = some (r, M')) : zGo (X, q4_someAgrees, G) 0 0 (0, [(0, .inr (.inr (some (4, 0)))), (1, .inl x1)], [], zfC M) := by
  unfold m4_someAgrees at h
  refine zblq Hy.1 Hy.2.1 [(.aload 0, 1), (.iload 1, 1)] (S' := (2, [(0, .inr (.inr (some (4, 0)))), (1, .inl x1)], [.inl x1, .inr (.inr (some (4, 0)))], zfC M)) (b := true) (by decide +kernel) rfl rfl ?_
  obtain ⟨M1, hc1, h⟩ := zbv_inv h
  refine zcallV Hy.1 (as := [.inl x1]) (st := []) (m4_weighSpots_met (zOK_G Hy.1) Hy.2.1 hc1) cw4_78 m4_weighSpots_in m4_weighSpots_se (by decide) (zhlv Hy.2.1 rfl) rfl (zroom Hy.2.2 ⟨by decide, by decide⟩) rfl (by decide +kernel) ⟨Nat.zero_le _, Nat.zero_le _⟩ ?_
  refine zblq Hy.1 Hy.2.1 [(.iconst 0, 1), (.istore 2, 1)] (S' := (7, [(0, .inr (.inr (some (4, 0)))), (1, .inl x1), (2, .inl (0 : Int32))], [], zfC M1)) (b := true) (by decide +kernel) rfl rfl ?_
  refine zGo_keep [0, 2] rfl ?_
  exact m4_someAgrees_7_ok Hy hE zfu (0 : Int32) M1 h
theorem m4_someAgrees_met {l : Launch} {G : zG} (hG : zGok G) (hcn : zgcn G = zcC) {x1 : Int32} {M : cM} {r : Int32} {M' : cM} (h : m4_someAgrees x1 M = some (r, M')) : zMet l G yX4_someAgrees cX4_someAgrees 4 (some .boolean) 4 93 [.inr (.inr (some (4, 0))), .inl x1] (zfC M) (some (.inl r)) (zfC M') :=
  zMet_of hG tbX4_ok rfl (by decide +kernel) (Nat.le_of_ble_eq_true rfl) (fun X _ Z hA hE => m4_someAgrees_ok ⟨Z, hcn, hA⟩ hE x1 M h)
abbrev q4_fewestQuarrelling : ByteArray × Nat × String × zT := (cX4_fewestQuarrelling, 3, RX4, tbX4)
def m4_fewestQuarrelling_51 (k2 : Int32 → cM → Option (Int32 × cM)) (k10 : Int32 → Int32 → cM → Option (Int32 × cM)) (x1 : Int32) (x2 : Int32) (M : cM) : Option (Int32 × cM) := k10 x1 (x2 + (1 : Int32)) M
theorem m4_fewestQuarrelling_51_ok {X : zX} {G : zG} (Hy : zHy X G q4_fewestQuarrelling zcC 5 116 (some .int)) {r : Int32} {M' : cM} (hE : zEnd X G (some (.inl r)) (zfC M')) {k2 : Int32 → cM → Option (Int32 × cM)} (hk2 : ∀ (x1 : Int32) (M : cM), k2 x1 M = some (r, M') → zGo (X, q4_fewestQuarrelling, G) 0 0 (2, [(0, .inr (.inr (some (4, 0)))), (1, .inl x1)], [], zfC M)) {k10 : Int32 → Int32 → cM → Option (Int32 × cM)} (hk10 : ∀ (x1 : Int32) (x2 : Int32) (M : cM), k10 x1 x2 M = some (r, M') → zGo (X, q4_fewestQuarrelling, G) 0 0 (10, [(0, .inr (.inr (some (4, 0)))), (1, .inl x1), (2, .inl x2)], [], zfC M)) (x1 : Int32) (x2 : Int32) (M : cM) (h : m4_fewestQuarrelling_51 k2 k10 x1 x2 M = some (r, M')) : zGo (X, q4_fewestQuarrelling, G) 0 0 (51, [(0, .inr (.inr (some (4, 0)))), (1, .inl x1), (2, .inl x2)], [], zfC M) := by
  unfold m4_fewestQuarrelling_51 at h
  refine zblq Hy.1 Hy.2.1 [(.iinc 2 1, 3), (.ldc 10, 3)] (S' := (10, [(0, .inr (.inr (some (4, 0)))), (1, .inl x1), (2, .inl (x2 + (1 : Int32)))], [], zfC M)) (b := true) (by decide +kernel) rfl rfl ?_
  refine zGo_keep [0, 1, 2] rfl ?_
  exact hk10 x1 (x2 + (1 : Int32)) M h
def m4_fewestQuarrelling_10 (k2 : Int32 → cM → Option (Int32 × cM)) : Nat → Int32 → Int32 → cM → Option (Int32 × cM)
  | 0, _, _, _ => none
  | n + 1, x1, x2, M => (if (64 : Int32) ≤ x2 then k2 (x1 + (1 : Int32)) M else zbd (mJ6_bitCount x2 M) (fun r1 M1 => (if r1 = x1 then (if (x2 &&& (cg M1 4 0 2)) = 0 then zbd (m4_someAgrees ((cg M1 4 0 2) ||| x2) M1) (fun r2 M2 => (if r2 = 0 then m4_fewestQuarrelling_51 k2 (m4_fewestQuarrelling_10 k2 n) x1 x2 M2 else some (x2, M2))) else m4_fewestQuarrelling_51 k2 (m4_fewestQuarrelling_10 k2 n) x1 x2 M1) else m4_fewestQuarrelling_51 k2 (m4_fewestQuarrelling_10 k2 n) x1 x2 M1)))
theorem m4_fewestQuarrelling_10_ok {X : zX} {G : zG} (Hy : zHy X G q4_fewestQuarrelling zcC 5 116 (some .int)) {r : Int32} {M' : cM} (hE : zEnd X G (some (.inl r)) (zfC M')) {k2 : Int32 → cM → Option (Int32 × cM)} (hk2 : ∀ (x1 : Int32) (M : cM), k2 x1 M = some (r, M') → zGo (X, q4_fewestQuarrelling, G) 0 0 (2, [(0, .inr (.inr (some (4, 0)))), (1, .inl x1)], [], zfC M)) : ∀ (n : Nat) (x1 : Int32) (x2 : Int32) (M : cM), m4_fewestQuarrelling_10 k2 n x1 x2 M = some (r, M') → zGo (X, q4_fewestQuarrelling, G) 0 0 (10, [(0, .inr (.inr (some (4, 0)))), (1, .inl x1), (2, .inl x2)], [], zfC M) := by
  intro n
  induction n with
  | zero => intro x1 x2 M h; cases h
  | succ n ih =>
    intro x1 x2 M h
    unfold m4_fewestQuarrelling_10 at h
    refine zblq Hy.1 Hy.2.1 [(.iload 2, 1), (.iconst 64, 2)] (S' := (13, [(0, .inr (.inr (some (4, 0)))), (1, .inl x1), (2, .inl x2)], [.inl (64 : Int32), .inl x2], zfC M)) (b := true) (by decide +kernel) rfl rfl ?_
    refine zic_ge Hy.1 (off := 44) (tgt := 57) (by decide +kernel) (by decide) (fun hb6 => ?_) (fun hb6 => ?_)
    · replace h := zite_t h hb6
      refine zblq Hy.1 Hy.2.1 [(.iinc 1 1, 3), (.ldc 2, 3)] (S' := (2, [(0, .inr (.inr (some (4, 0)))), (1, .inl (x1 + (1 : Int32))), (2, .inl x2)], [], zfC M)) (b := true) (by decide +kernel) rfl rfl ?_
      refine zGo_keep [0, 1] rfl ?_
      exact hk2 (x1 + (1 : Int32)) M h
    · replace h := zite_f h hb6
      refine zblq Hy.1 Hy.2.1 [(.iload 2, 1)] (S' := (17, [(0, .inr (.inr (some (4, 0)))), (1, .inl x1), (2, .inl x2)], [.inl x2], zfC M)) (b := true) (by decide +kernel) rfl rfl ?_
      obtain ⟨r1, M1, hc1, h⟩ := zbd_inv h
      refine zcallS Hy.1 (as := [.inl x2]) (st := []) (mJ6_bitCount_met (zOK_G Hy.1) Hy.2.1 hc1) cw4_130 mJ6_bitCount_in rfl (zroom Hy.2.2 ⟨by decide, by decide⟩) rfl (by decide +kernel) ⟨Nat.zero_le _, Nat.zero_le _⟩ ?_
      refine zblq Hy.1 Hy.2.1 [(.iload 1, 1)] (S' := (21, [(0, .inr (.inr (some (4, 0)))), (1, .inl x1), (2, .inl x2)], [.inl x1, .inl r1], zfC M1)) (b := true) (by decide +kernel) rfl rfl ?_
      refine zic_ne Hy.1 (off := 30) (tgt := 51) (by decide +kernel) (by decide) (fun hb5 => ?_) (fun hb5 => ?_)
      · replace h := zite_f h hb5
        refine zGo_keep [0, 1, 2] rfl ?_
        exact m4_fewestQuarrelling_51_ok Hy hE hk2 ih x1 x2 M1 h
      · replace h := zite_t h hb5
        refine zblq Hy.1 Hy.2.1 [(.iload 2, 1), (.aload 0, 1), (.multianewarray 4 2, 3), (.iand, 1)] (S' := (30, [(0, .inr (.inr (some (4, 0)))), (1, .inl x1), (2, .inl x2)], [.inl (x2 &&& (cg M1 4 0 2))], zfC M1)) (b := true) (by decide +kernel) rfl rfl ?_
        refine zif_eq Hy.1 (off := 6) (tgt := 36) (by decide +kernel) (by decide) (fun hb4 => ?_) (fun hb4 => ?_)
        · replace h := zite_t h hb4
          refine zblq Hy.1 Hy.2.1 [(.aload 0, 1), (.aload 0, 1), (.multianewarray 4 2, 3), (.iload 2, 1), (.ior, 1)] (S' := (43, [(0, .inr (.inr (some (4, 0)))), (1, .inl x1), (2, .inl x2)], [.inl ((cg M1 4 0 2) ||| x2), .inr (.inr (some (4, 0)))], zfC M1)) (b := true) (by decide +kernel) rfl rfl ?_
          obtain ⟨r2, M2, hc2, h⟩ := zbd_inv h
          refine zcallV Hy.1 (as := [.inl ((cg M1 4 0 2) ||| x2)]) (st := []) (m4_someAgrees_met (zOK_G Hy.1) Hy.2.1 hc2) cw4_135 m4_someAgrees_in m4_someAgrees_se (by decide) (zhlv Hy.2.1 rfl) rfl (zroom Hy.2.2 ⟨by decide, by decide⟩) rfl (by decide +kernel) ⟨Nat.zero_le _, Nat.zero_le _⟩ ?_
          refine zif_eq Hy.1 (off := 5) (tgt := 51) (by decide +kernel) (by decide) (fun hb3 => ?_) (fun hb3 => ?_)
          · replace h := zite_t h hb3
            refine zGo_keep [0, 1, 2] rfl ?_
            exact m4_fewestQuarrelling_51_ok Hy hE hk2 ih x1 x2 M2 h
          · replace h := zite_f h hb3
            refine zblq Hy.1 Hy.2.1 [(.iload 2, 1)] (S' := (50, [(0, .inr (.inr (some (4, 0)))), (1, .inl x1), (2, .inl x2)], [.inl x2], zfC M2)) (b := true) (by decide +kernel) rfl rfl ?_
            cases h
            exact zret_i Hy.1 Hy.2.2 hE (by decide +kernel)
        · replace h := zite_f h hb4
          refine zblq Hy.1 Hy.2.1 [(.ldc 51, 3)] (S' := (51, [(0, .inr (.inr (some (4, 0)))), (1, .inl x1), (2, .inl x2)], [], zfC M1)) (b := true) (by decide +kernel) rfl rfl ?_
          refine zGo_keep [0, 1, 2] rfl ?_
          exact m4_fewestQuarrelling_51_ok Hy hE hk2 ih x1 x2 M1 h
def m4_fewestQuarrelling_2 : Nat → Int32 → cM → Option (Int32 × cM)
  | 0, _, _ => none
  | n + 1, x1, M => (if (6 : Int32) < x1 then some ((-1 : Int32), M) else m4_fewestQuarrelling_10 (m4_fewestQuarrelling_2 n) zfu x1 (0 : Int32) M)
theorem m4_fewestQuarrelling_2_ok {X : zX} {G : zG} (Hy : zHy X G q4_fewestQuarrelling zcC 5 116 (some .int)) {r : Int32} {M' : cM} (hE : zEnd X G (some (.inl r)) (zfC M')) : ∀ (n : Nat) (x1 : Int32) (M : cM), m4_fewestQuarrelling_2 n x1 M = some (r, M') → zGo (X, q4_fewestQuarrelling, G) 0 0 (2, [(0, .inr (.inr (some (4, 0)))), (1, .inl x1)], [], zfC M) := by
  intro n
  induction n with
  | zero => intro x1 M h; cases h
  | succ n ih =>
    intro x1 M h
    unfold m4_fewestQuarrelling_2 at h
    refine zblq Hy.1 Hy.2.1 [(.iload 1, 1), (.iconst 6, 2)] (S' := (5, [(0, .inr (.inr (some (4, 0)))), (1, .inl x1)], [.inl (6 : Int32), .inl x1], zfC M)) (b := true) (by decide +kernel) rfl rfl ?_
    refine zic_gt Hy.1 (off := 58) (tgt := 63) (by decide +kernel) (by decide) (fun hb7 => ?_) (fun hb7 => ?_)
    · replace h := zite_t h hb7
      refine zblq Hy.1 Hy.2.1 [(.iconst (-1), 1)] (S' := (64, [(0, .inr (.inr (some (4, 0)))), (1, .inl x1)], [.inl (-1 : Int32)], zfC M)) (b := true) (by decide +kernel) rfl rfl ?_
      cases h
      exact zret_i Hy.1 Hy.2.2 hE (by decide +kernel)
    · replace h := zite_f h hb7
      refine zblq Hy.1 Hy.2.1 [(.iconst 0, 1), (.istore 2, 1)] (S' := (10, [(0, .inr (.inr (some (4, 0)))), (1, .inl x1), (2, .inl (0 : Int32))], [], zfC M)) (b := true) (by decide +kernel) rfl rfl ?_
      refine zGo_keep [0, 1, 2] rfl ?_
      exact m4_fewestQuarrelling_10_ok Hy hE ih zfu x1 (0 : Int32) M h
def m4_fewestQuarrelling  (M : cM) : Option (Int32 × cM) := m4_fewestQuarrelling_2 zfu (0 : Int32) M
theorem m4_fewestQuarrelling_ok {X : zX} {G : zG} (Hy : zHy X G q4_fewestQuarrelling zcC 5 116 (some .int)) {r : Int32} {M' : cM} (hE : zEnd X G (some (.inl r)) (zfC M'))  (M : cM) (h : m4_fewestQuarrelling M = some (r, M')) : zGo (X, q4_fewestQuarrelling, G) 0 0 (0, [(0, .inr (.inr (some (4, 0))))], [], zfC M) := by
  unfold m4_fewestQuarrelling at h
  refine zblq Hy.1 Hy.2.1 [(.iconst 0, 1), (.istore 1, 1)] (S' := (2, [(0, .inr (.inr (some (4, 0)))), (1, .inl (0 : Int32))], [], zfC M)) (b := true) (by decide +kernel) rfl rfl ?_
  refine zGo_keep [0, 1] rfl ?_
  exact m4_fewestQuarrelling_2_ok Hy hE zfu (0 : Int32) M h
theorem m4_fewestQuarrelling_met {l : Launch} {G : zG} (hG : zGok G) (hcn : zgcn G = zcC)  {M : cM} {r : Int32} {M' : cM} (h : m4_fewestQuarrelling M = some (r, M')) : zMet l G yX4_fewestQuarrelling cX4_fewestQuarrelling 3 (some .int) 5 116 [.inr (.inr (some (4, 0)))] (zfC M) (some (.inl r)) (zfC M') :=
  zMet_of hG tbX4_ok rfl (by decide +kernel) (Nat.le_of_ble_eq_true rfl) (fun X _ Z hA hE => m4_fewestQuarrelling_ok ⟨Z, hcn, hA⟩ hE M h)
abbrev q11_quarrel : ByteArray × Nat × String × zT := (cX11_quarrel, 1, RX11, tbX11)
def m11_quarrel  (M : cM) : Option (Int32 × cM) := zbd (m4_fewestQuarrelling M) (fun r1 M1 => some (r1, M1))
theorem m11_quarrel_ok {X : zX} {G : zG} (Hy : zHy X G q11_quarrel zcC 6 138 (some .int)) {r : Int32} {M' : cM} (hE : zEnd X G (some (.inl r)) (zfC M'))  (M : cM) (h : m11_quarrel M = some (r, M')) : zGo (X, q11_quarrel, G) 0 0 (0, [(0, .inr (.inr (some (11, 0))))], [], zfC M) := by
  unfold m11_quarrel at h
  refine zblq Hy.1 Hy.2.1 [(.aload 0, 1), (.getfield 1106, 3)] (S' := (4, [(0, .inr (.inr (some (11, 0))))], [.inr (.inr (some (4, 0)))], zfC M)) (b := true) (by decide +kernel) rfl rfl ?_
  obtain ⟨r1, M1, hc1, h⟩ := zbd_inv h
  refine zcallV Hy.1 (as := []) (st := []) (m4_fewestQuarrelling_met (zOK_G Hy.1) Hy.2.1 hc1) cw11_338 m4_fewestQuarrelling_in m4_fewestQuarrelling_se (by decide) (zhlv Hy.2.1 rfl) rfl (zroom Hy.2.2 ⟨by decide, by decide⟩) rfl (by decide +kernel) ⟨Nat.zero_le _, Nat.zero_le _⟩ ?_
  cases h
  exact zret_i Hy.1 Hy.2.2 hE (by decide +kernel)
theorem m11_quarrel_met {l : Launch} {G : zG} (hG : zGok G) (hcn : zgcn G = zcC)  {M : cM} {r : Int32} {M' : cM} (h : m11_quarrel M = some (r, M')) : zMet l G yX11_quarrel cX11_quarrel 1 (some .int) 6 138 [.inr (.inr (some (11, 0)))] (zfC M) (some (.inl r)) (zfC M') :=
  zMet_of hG tbX11_ok rfl (by decide +kernel) (Nat.le_of_ble_eq_true rfl) (fun X _ Z hA hE => m11_quarrel_ok ⟨Z, hcn, hA⟩ hE M h)
abbrev q4_wouldTell : ByteArray × Nat × String × zT := (cX4_wouldTell, 6, RX4, tbX4)
def m4_wouldTell_55 (k6 : Int32 → Int32 → Int32 → Int32 → Int32 → cM → Option (Int32 × cM)) (x1 : Int32) (x2 : Int32) (x3 : Int32) (x4 : Int32) (x5 : Int32) (M : cM) : Option (Int32 × cM) := k6 x1 x2 x3 x4 (x5 + (1 : Int32)) M
theorem m4_wouldTell_55_ok {X : zX} {G : zG} (Hy : zHy X G q4_wouldTell zcC 2 43 (some .int)) {r : Int32} {M' : cM} (hE : zEnd X G (some (.inl r)) (zfC M')) {k6 : Int32 → Int32 → Int32 → Int32 → Int32 → cM → Option (Int32 × cM)} (hk6 : ∀ (x1 : Int32) (x2 : Int32) (x3 : Int32) (x4 : Int32) (x5 : Int32) (M : cM), k6 x1 x2 x3 x4 x5 M = some (r, M') → zGo (X, q4_wouldTell, G) 0 0 (6, [(0, .inr (.inr (some (4, 0)))), (1, .inl x1), (2, .inl x2), (3, .inl x3), (4, .inl x4), (5, .inl x5)], [], zfC M)) (x1 : Int32) (x2 : Int32) (x3 : Int32) (x4 : Int32) (x5 : Int32) (M : cM) (h : m4_wouldTell_55 k6 x1 x2 x3 x4 x5 M = some (r, M')) : zGo (X, q4_wouldTell, G) 0 0 (55, [(0, .inr (.inr (some (4, 0)))), (1, .inl x1), (2, .inl x2), (3, .inl x3), (4, .inl x4), (5, .inl x5)], [], zfC M) := by
  unfold m4_wouldTell_55 at h
  refine zblq Hy.1 Hy.2.1 [(.iinc 5 1, 3), (.ldc 6, 3)] (S' := (6, [(0, .inr (.inr (some (4, 0)))), (1, .inl x1), (2, .inl x2), (3, .inl x3), (4, .inl x4), (5, .inl (x5 + (1 : Int32)))], [], zfC M)) (b := true) (by decide +kernel) rfl rfl ?_
  refine zGo_keep [0, 1, 2, 3, 4, 5] rfl ?_
  exact hk6 x1 x2 x3 x4 (x5 + (1 : Int32)) M h
def m4_wouldTell_6 : Nat → Int32 → Int32 → Int32 → Int32 → Int32 → cM → Option (Int32 × cM)
  | 0, _, _, _, _, _, _ => none
  | n + 1, x1, x2, x3, x4, x5, M => (if (6 : Int32) ≤ x5 then some (x4, M) else (if ((zshr x1 x5) &&& (1 : Int32)) = 0 then m4_wouldTell_55 (m4_wouldTell_6 n) x1 x2 x3 x4 x5 M else zbd (m4_logOf x5 x2 M) (fun r1 M1 => (if r1 = (2 : Int32) then zbd (m4_earHears x5 x3 M1) (fun r2 M2 => (if r2 = 0 then m4_wouldTell_55 (m4_wouldTell_6 n) x1 x2 x3 x4 x5 M2 else m4_wouldTell_55 (m4_wouldTell_6 n) x1 x2 x3 (x4 ||| (zshl (1 : Int32) x5)) x5 M2)) else m4_wouldTell_55 (m4_wouldTell_6 n) x1 x2 x3 x4 x5 M1))))
theorem m4_wouldTell_6_ok {X : zX} {G : zG} (Hy : zHy X G q4_wouldTell zcC 2 43 (some .int)) {r : Int32} {M' : cM} (hE : zEnd X G (some (.inl r)) (zfC M')) : ∀ (n : Nat) (x1 : Int32) (x2 : Int32) (x3 : Int32) (x4 : Int32) (x5 : Int32) (M : cM), m4_wouldTell_6 n x1 x2 x3 x4 x5 M = some (r, M') → zGo (X, q4_wouldTell, G) 0 0 (6, [(0, .inr (.inr (some (4, 0)))), (1, .inl x1), (2, .inl x2), (3, .inl x3), (4, .inl x4), (5, .inl x5)], [], zfC M) := by
  intro n
  induction n with
  | zero => intro x1 x2 x3 x4 x5 M h; cases h
  | succ n ih =>
    intro x1 x2 x3 x4 x5 M h
    unfold m4_wouldTell_6 at h
    refine zblq Hy.1 Hy.2.1 [(.iload 5, 2), (.iconst 6, 2)] (S' := (10, [(0, .inr (.inr (some (4, 0)))), (1, .inl x1), (2, .inl x2), (3, .inl x3), (4, .inl x4), (5, .inl x5)], [.inl (6 : Int32), .inl x5], zfC M)) (b := true) (by decide +kernel) rfl rfl ?_
    refine zic_ge Hy.1 (off := 51) (tgt := 61) (by decide +kernel) (by decide) (fun hb6 => ?_) (fun hb6 => ?_)
    · replace h := zite_t h hb6
      refine zblq Hy.1 Hy.2.1 [(.iload 4, 2)] (S' := (63, [(0, .inr (.inr (some (4, 0)))), (1, .inl x1), (2, .inl x2), (3, .inl x3), (4, .inl x4), (5, .inl x5)], [.inl x4], zfC M)) (b := true) (by decide +kernel) rfl rfl ?_
      cases h
      exact zret_i Hy.1 Hy.2.2 hE (by decide +kernel)
    · replace h := zite_f h hb6
      refine zblq Hy.1 Hy.2.1 [(.iload 1, 1), (.iload 5, 2), (.ishr, 1), (.iconst 1, 1), (.iand, 1)] (S' := (19, [(0, .inr (.inr (some (4, 0)))), (1, .inl x1), (2, .inl x2), (3, .inl x3), (4, .inl x4), (5, .inl x5)], [.inl ((zshr x1 x5) &&& (1 : Int32))], zfC M)) (b := true) (by decide +kernel) rfl rfl ?_
      refine zif_eq Hy.1 (off := 36) (tgt := 55) (by decide +kernel) (by decide) (fun hb5 => ?_) (fun hb5 => ?_)
      · replace h := zite_t h hb5
        refine zGo_keep [0, 1, 2, 3, 4, 5] rfl ?_
        exact m4_wouldTell_55_ok Hy hE ih x1 x2 x3 x4 x5 M h
      · replace h := zite_f h hb5
        refine zblq Hy.1 Hy.2.1 [(.aload 0, 1), (.iload 5, 2), (.iload 2, 1)] (S' := (26, [(0, .inr (.inr (some (4, 0)))), (1, .inl x1), (2, .inl x2), (3, .inl x3), (4, .inl x4), (5, .inl x5)], [.inl x2, .inl x5, .inr (.inr (some (4, 0)))], zfC M)) (b := true) (by decide +kernel) rfl rfl ?_
        obtain ⟨r1, M1, hc1, h⟩ := zbd_inv h
        refine zcallV Hy.1 (as := [.inl x5, .inl x2]) (st := []) (m4_logOf_met (zOK_G Hy.1) Hy.2.1 hc1) cw4_60 m4_logOf_in m4_logOf_se (by decide) (zhlv Hy.2.1 rfl) rfl (zroom Hy.2.2 ⟨by decide, by decide⟩) rfl (by decide +kernel) ⟨Nat.zero_le _, Nat.zero_le _⟩ ?_
        refine zblq Hy.1 Hy.2.1 [(.iconst 2, 1)] (S' := (30, [(0, .inr (.inr (some (4, 0)))), (1, .inl x1), (2, .inl x2), (3, .inl x3), (4, .inl x4), (5, .inl x5)], [.inl (2 : Int32), .inl r1], zfC M1)) (b := true) (by decide +kernel) rfl rfl ?_
        refine zic_eq Hy.1 (off := 6) (tgt := 36) (by decide +kernel) (by decide) (fun hb4 => ?_) (fun hb4 => ?_)
        · replace h := zite_t h hb4
          refine zblq Hy.1 Hy.2.1 [(.aload 0, 1), (.iload 5, 2), (.iload 3, 1)] (S' := (40, [(0, .inr (.inr (some (4, 0)))), (1, .inl x1), (2, .inl x2), (3, .inl x3), (4, .inl x4), (5, .inl x5)], [.inl x3, .inl x5, .inr (.inr (some (4, 0)))], zfC M1)) (b := true) (by decide +kernel) rfl rfl ?_
          obtain ⟨r2, M2, hc2, h⟩ := zbd_inv h
          refine zcallV Hy.1 (as := [.inl x5, .inl x3]) (st := []) (m4_earHears_met (zOK_G Hy.1) Hy.2.1 hc2) cw4_71 m4_earHears_in m4_earHears_se (by decide) (zhlv Hy.2.1 rfl) rfl (zroom Hy.2.2 ⟨by decide, by decide⟩) rfl (by decide +kernel) ⟨Nat.zero_le _, Nat.zero_le _⟩ ?_
          refine zif_eq Hy.1 (off := 12) (tgt := 55) (by decide +kernel) (by decide) (fun hb3 => ?_) (fun hb3 => ?_)
          · replace h := zite_t h hb3
            refine zGo_keep [0, 1, 2, 3, 4, 5] rfl ?_
            exact m4_wouldTell_55_ok Hy hE ih x1 x2 x3 x4 x5 M2 h
          · replace h := zite_f h hb3
            refine zblq Hy.1 Hy.2.1 [(.iload 4, 2), (.iconst 1, 1), (.iload 5, 2), (.ishl, 1), (.ior, 1), (.istore 4, 2)] (S' := (55, [(0, .inr (.inr (some (4, 0)))), (1, .inl x1), (2, .inl x2), (3, .inl x3), (4, .inl (x4 ||| (zshl (1 : Int32) x5))), (5, .inl x5)], [], zfC M2)) (b := true) (by decide +kernel) rfl rfl ?_
            refine zGo_keep [0, 1, 2, 3, 4, 5] rfl ?_
            exact m4_wouldTell_55_ok Hy hE ih x1 x2 x3 (x4 ||| (zshl (1 : Int32) x5)) x5 M2 h
        · replace h := zite_f h hb4
          refine zblq Hy.1 Hy.2.1 [(.ldc 55, 3)] (S' := (55, [(0, .inr (.inr (some (4, 0)))), (1, .inl x1), (2, .inl x2), (3, .inl x3), (4, .inl x4), (5, .inl x5)], [], zfC M1)) (b := true) (by decide +kernel) rfl rfl ?_
          refine zGo_keep [0, 1, 2, 3, 4, 5] rfl ?_
          exact m4_wouldTell_55_ok Hy hE ih x1 x2 x3 x4 x5 M1 h
def m4_wouldTell (x1 : Int32) (x2 : Int32) (x3 : Int32) (M : cM) : Option (Int32 × cM) := m4_wouldTell_6 zfu x1 x2 x3 (0 : Int32) (0 : Int32) M
theorem m4_wouldTell_ok {X : zX} {G : zG} (Hy : zHy X G q4_wouldTell zcC 2 43 (some .int)) {r : Int32} {M' : cM} (hE : zEnd X G (some (.inl r)) (zfC M')) (x1 : Int32) (x2 : Int32) (x3 : Int32) (M : cM) (h : m4_wouldTell x1 x2 x3 M = some (r, M')) : zGo (X, q4_wouldTell, G) 0 0 (0, [(0, .inr (.inr (some (4, 0)))), (1, .inl x1), (2, .inl x2), (3, .inl x3)], [], zfC M) := by
  unfold m4_wouldTell at h
  refine zblq Hy.1 Hy.2.1 [(.iconst 0, 1), (.istore 4, 2), (.iconst 0, 1), (.istore 5, 2)] (S' := (6, [(0, .inr (.inr (some (4, 0)))), (1, .inl x1), (2, .inl x2), (3, .inl x3), (4, .inl (0 : Int32)), (5, .inl (0 : Int32))], [], zfC M)) (b := true) (by decide +kernel) rfl rfl ?_
  refine zGo_keep [0, 1, 2, 3, 4, 5] rfl ?_
  exact m4_wouldTell_6_ok Hy hE zfu x1 x2 x3 (0 : Int32) (0 : Int32) M h
theorem m4_wouldTell_met {l : Launch} {G : zG} (hG : zGok G) (hcn : zgcn G = zcC) {x1 : Int32} {x2 : Int32} {x3 : Int32} {M : cM} {r : Int32} {M' : cM} (h : m4_wouldTell x1 x2 x3 M = some (r, M')) : zMet l G yX4_wouldTell cX4_wouldTell 6 (some .int) 2 43 [.inr (.inr (some (4, 0))), .inl x1, .inl x2, .inl x3] (zfC M) (some (.inl r)) (zfC M') :=
  zMet_of hG tbX4_ok rfl (by decide +kernel) (Nat.le_of_ble_eq_true rfl) (fun X _ Z hA hE => m4_wouldTell_ok ⟨Z, hcn, hA⟩ hE x1 x2 x3 M h)
abbrev q4_matchSpots : ByteArray × Nat × String × zT := (cX4_matchSpots, 5, RX4, tbX4)
def m4_matchSpots_56 (k2 : Int32 → Int32 → cM → Option cM) (k17 : Int32 → Int32 → Int32 → cM → Option cM) (x1 : Int32) (x2 : Int32) (x3 : Int32) (x4 : Int32) (M : cM) : Option cM := zgd (zin (((6 : Int32) * x2) + x3) 30 && true) (k17 x1 x2 (x3 + (1 : Int32)) (cs M 507 0 (nx (((6 : Int32) * x2) + x3)) x4))
theorem m4_matchSpots_56_ok {X : zX} {G : zG} (Hy : zHy X G q4_matchSpots zcC 3 68 (none)) {M' : cM} (hE : zEnd X G (none) (zfC M')) {k2 : Int32 → Int32 → cM → Option cM} (hk2 : ∀ (x1 : Int32) (x2 : Int32) (M : cM), k2 x1 x2 M = some M' → zGo (X, q4_matchSpots, G) 0 0 (2, [(0, .inr (.inr (some (4, 0)))), (1, .inl x1), (2, .inl x2)], [], zfC M)) {k17 : Int32 → Int32 → Int32 → cM → Option cM} (hk17 : ∀ (x1 : Int32) (x2 : Int32) (x3 : Int32) (M : cM), k17 x1 x2 x3 M = some M' → zGo (X, q4_matchSpots, G) 0 0 (17, [(0, .inr (.inr (some (4, 0)))), (1, .inl x1), (2, .inl x2), (3, .inl x3)], [], zfC M)) (x1 : Int32) (x2 : Int32) (x3 : Int32) (x4 : Int32) (M : cM) (h : m4_matchSpots_56 k2 k17 x1 x2 x3 x4 M = some M') : zGo (X, q4_matchSpots, G) 0 0 (56, [(0, .inr (.inr (some (4, 0)))), (1, .inl x1), (2, .inl x2), (3, .inl x3), (4, .inl x4)], [], zfC M) := by
  unfold m4_matchSpots_56 at h
  obtain ⟨hg1, h⟩ := zgd_inv h
  refine zblq Hy.1 Hy.2.1 [(.aload 0, 1), (.getfield 407, 3), (.iconst 6, 2), (.iload 2, 1), (.imul, 1), (.iload 3, 1), (.iadd, 1), (.iload 4, 2), (.iastore, 1), (.iinc 3 1, 3), (.ldc 17, 3)] (S' := (17, [(0, .inr (.inr (some (4, 0)))), (1, .inl x1), (2, .inl x2), (3, .inl (x3 + (1 : Int32))), (4, .inl x4)], [], zfC (cs M 507 0 (nx (((6 : Int32) * x2) + x3)) x4))) (b := zin (((6 : Int32) * x2) + x3) 30 && true) (by decide +kernel) rfl hg1 ?_
  refine zGo_keep [0, 1, 2, 3] rfl ?_
  exact hk17 x1 x2 (x3 + (1 : Int32)) (cs M 507 0 (nx (((6 : Int32) * x2) + x3)) x4) h
def m4_matchSpots_26 (k2 : Int32 → Int32 → cM → Option cM) (k17 : Int32 → Int32 → Int32 → cM → Option cM) : Nat → Int32 → Int32 → Int32 → Int32 → cM → Option cM
  | 0, _, _, _, _, _ => none
  | n + 1, x1, x2, x3, x4, M => (if x3 ≤ x4 then m4_matchSpots_56 k2 k17 x1 x2 x3 x4 M else zbd (m4_wouldTell x1 x2 x4 M) (fun r2 M2 => zbd (m4_wouldTell x1 x2 x3 M2) (fun r3 M3 => (if r2 = r3 then m4_matchSpots_56 k2 k17 x1 x2 x3 x4 M3 else (m4_matchSpots_26 k2 k17 n) x1 x2 x3 (x4 + (1 : Int32)) M3))))
theorem m4_matchSpots_26_ok {X : zX} {G : zG} (Hy : zHy X G q4_matchSpots zcC 3 68 (none)) {M' : cM} (hE : zEnd X G (none) (zfC M')) {k2 : Int32 → Int32 → cM → Option cM} (hk2 : ∀ (x1 : Int32) (x2 : Int32) (M : cM), k2 x1 x2 M = some M' → zGo (X, q4_matchSpots, G) 0 0 (2, [(0, .inr (.inr (some (4, 0)))), (1, .inl x1), (2, .inl x2)], [], zfC M)) {k17 : Int32 → Int32 → Int32 → cM → Option cM} (hk17 : ∀ (x1 : Int32) (x2 : Int32) (x3 : Int32) (M : cM), k17 x1 x2 x3 M = some M' → zGo (X, q4_matchSpots, G) 0 0 (17, [(0, .inr (.inr (some (4, 0)))), (1, .inl x1), (2, .inl x2), (3, .inl x3)], [], zfC M)) : ∀ (n : Nat) (x1 : Int32) (x2 : Int32) (x3 : Int32) (x4 : Int32) (M : cM), m4_matchSpots_26 k2 k17 n x1 x2 x3 x4 M = some M' → zGo (X, q4_matchSpots, G) 0 0 (26, [(0, .inr (.inr (some (4, 0)))), (1, .inl x1), (2, .inl x2), (3, .inl x3), (4, .inl x4)], [], zfC M) := by
  intro n
  induction n with
  | zero => intro x1 x2 x3 x4 M h; cases h
  | succ n ih =>
    intro x1 x2 x3 x4 M h
    unfold m4_matchSpots_26 at h
    refine zblq Hy.1 Hy.2.1 [(.iload 4, 2), (.iload 3, 1)] (S' := (29, [(0, .inr (.inr (some (4, 0)))), (1, .inl x1), (2, .inl x2), (3, .inl x3), (4, .inl x4)], [.inl x3, .inl x4], zfC M)) (b := true) (by decide +kernel) rfl rfl ?_
    refine zic_ge Hy.1 (off := 27) (tgt := 56) (by decide +kernel) (by decide) (fun hb5 => ?_) (fun hb5 => ?_)
    · replace h := zite_t h hb5
      refine zGo_keep [0, 1, 2, 3, 4] rfl ?_
      exact m4_matchSpots_56_ok Hy hE hk2 hk17 x1 x2 x3 x4 M h
    · replace h := zite_f h hb5
      refine zblq Hy.1 Hy.2.1 [(.aload 0, 1), (.iload 1, 1), (.iload 2, 1), (.iload 4, 2)] (S' := (37, [(0, .inr (.inr (some (4, 0)))), (1, .inl x1), (2, .inl x2), (3, .inl x3), (4, .inl x4)], [.inl x4, .inl x2, .inl x1, .inr (.inr (some (4, 0)))], zfC M)) (b := true) (by decide +kernel) rfl rfl ?_
      obtain ⟨r2, M2, hc2, h⟩ := zbd_inv h
      refine zcallV Hy.1 (as := [.inl x1, .inl x2, .inl x4]) (st := []) (m4_wouldTell_met (zOK_G Hy.1) Hy.2.1 hc2) cw4_150 m4_wouldTell_in m4_wouldTell_se (by decide) (zhlv Hy.2.1 rfl) rfl (zroom Hy.2.2 ⟨by decide, by decide⟩) rfl (by decide +kernel) ⟨Nat.zero_le _, Nat.zero_le _⟩ ?_
      refine zblq Hy.1 Hy.2.1 [(.aload 0, 1), (.iload 1, 1), (.iload 2, 1), (.iload 3, 1)] (S' := (44, [(0, .inr (.inr (some (4, 0)))), (1, .inl x1), (2, .inl x2), (3, .inl x3), (4, .inl x4)], [.inl x3, .inl x2, .inl x1, .inr (.inr (some (4, 0))), .inl r2], zfC M2)) (b := true) (by decide +kernel) rfl rfl ?_
      obtain ⟨r3, M3, hc3, h⟩ := zbd_inv h
      refine zcallV Hy.1 (as := [.inl x1, .inl x2, .inl x3]) (st := [.inl r2]) (m4_wouldTell_met (zOK_G Hy.1) Hy.2.1 hc3) cw4_150 m4_wouldTell_in m4_wouldTell_se (by decide) (zhlv Hy.2.1 rfl) rfl (zroom Hy.2.2 ⟨by decide, by decide⟩) rfl (by decide +kernel) ⟨Nat.zero_le _, Nat.zero_le _⟩ ?_
      refine zic_eq Hy.1 (off := 9) (tgt := 56) (by decide +kernel) (by decide) (fun hb4 => ?_) (fun hb4 => ?_)
      · replace h := zite_t h hb4
        refine zGo_keep [0, 1, 2, 3, 4] rfl ?_
        exact m4_matchSpots_56_ok Hy hE hk2 hk17 x1 x2 x3 x4 M3 h
      · replace h := zite_f h hb4
        refine zblq Hy.1 Hy.2.1 [(.iinc 4 1, 3), (.ldc 26, 3)] (S' := (26, [(0, .inr (.inr (some (4, 0)))), (1, .inl x1), (2, .inl x2), (3, .inl x3), (4, .inl (x4 + (1 : Int32)))], [], zfC M3)) (b := true) (by decide +kernel) rfl rfl ?_
        refine zGo_keep [0, 1, 2, 3, 4] rfl ?_
        exact ih x1 x2 x3 (x4 + (1 : Int32)) M3 h
def m4_matchSpots_17 (k2 : Int32 → Int32 → cM → Option cM) : Nat → Int32 → Int32 → Int32 → cM → Option cM
  | 0, _, _, _, _ => none
  | n + 1, x1, x2, x3, M => (if (6 : Int32) ≤ x3 then k2 x1 (x2 + (1 : Int32)) M else m4_matchSpots_26 k2 (m4_matchSpots_17 k2 n) zfu x1 x2 x3 (0 : Int32) M)
theorem m4_matchSpots_17_ok {X : zX} {G : zG} (Hy : zHy X G q4_matchSpots zcC 3 68 (none)) {M' : cM} (hE : zEnd X G (none) (zfC M')) {k2 : Int32 → Int32 → cM → Option cM} (hk2 : ∀ (x1 : Int32) (x2 : Int32) (M : cM), k2 x1 x2 M = some M' → zGo (X, q4_matchSpots, G) 0 0 (2, [(0, .inr (.inr (some (4, 0)))), (1, .inl x1), (2, .inl x2)], [], zfC M)) : ∀ (n : Nat) (x1 : Int32) (x2 : Int32) (x3 : Int32) (M : cM), m4_matchSpots_17 k2 n x1 x2 x3 M = some M' → zGo (X, q4_matchSpots, G) 0 0 (17, [(0, .inr (.inr (some (4, 0)))), (1, .inl x1), (2, .inl x2), (3, .inl x3)], [], zfC M) := by
  intro n
  induction n with
  | zero => intro x1 x2 x3 M h; cases h
  | succ n ih =>
    intro x1 x2 x3 M h
    unfold m4_matchSpots_17 at h
    refine zblq Hy.1 Hy.2.1 [(.iload 3, 1), (.iconst 6, 2)] (S' := (20, [(0, .inr (.inr (some (4, 0)))), (1, .inl x1), (2, .inl x2), (3, .inl x3)], [.inl (6 : Int32), .inl x3], zfC M)) (b := true) (by decide +kernel) rfl rfl ?_
    refine zic_ge Hy.1 (off := 55) (tgt := 75) (by decide +kernel) (by decide) (fun hb6 => ?_) (fun hb6 => ?_)
    · replace h := zite_t h hb6
      refine zblq Hy.1 Hy.2.1 [(.iinc 2 1, 3), (.ldc 2, 3)] (S' := (2, [(0, .inr (.inr (some (4, 0)))), (1, .inl x1), (2, .inl (x2 + (1 : Int32))), (3, .inl x3)], [], zfC M)) (b := true) (by decide +kernel) rfl rfl ?_
      refine zGo_keep [0, 1, 2] rfl ?_
      exact hk2 x1 (x2 + (1 : Int32)) M h
    · replace h := zite_f h hb6
      refine zblq Hy.1 Hy.2.1 [(.iconst 0, 1), (.istore 4, 2)] (S' := (26, [(0, .inr (.inr (some (4, 0)))), (1, .inl x1), (2, .inl x2), (3, .inl x3), (4, .inl (0 : Int32))], [], zfC M)) (b := true) (by decide +kernel) rfl rfl ?_
      refine zGo_keep [0, 1, 2, 3, 4] rfl ?_
      exact m4_matchSpots_26_ok Hy hE hk2 ih zfu x1 x2 x3 (0 : Int32) M h
def m4_matchSpots_2 : Nat → Int32 → Int32 → cM → Option cM
  | 0, _, _, _ => none
  | n + 1, x1, x2, M => (if (cg M 4 0 1) ≤ x2 then some M else (if (5 : Int32) ≤ x2 then some M else m4_matchSpots_17 (m4_matchSpots_2 n) zfu x1 x2 (0 : Int32) M))
theorem m4_matchSpots_2_ok {X : zX} {G : zG} (Hy : zHy X G q4_matchSpots zcC 3 68 (none)) {M' : cM} (hE : zEnd X G (none) (zfC M')) : ∀ (n : Nat) (x1 : Int32) (x2 : Int32) (M : cM), m4_matchSpots_2 n x1 x2 M = some M' → zGo (X, q4_matchSpots, G) 0 0 (2, [(0, .inr (.inr (some (4, 0)))), (1, .inl x1), (2, .inl x2)], [], zfC M) := by
  intro n
  induction n with
  | zero => intro x1 x2 M h; cases h
  | succ n ih =>
    intro x1 x2 M h
    unfold m4_matchSpots_2 at h
    refine zblq Hy.1 Hy.2.1 [(.iload 2, 1), (.aload 0, 1), (.multianewarray 4 1, 3)] (S' := (7, [(0, .inr (.inr (some (4, 0)))), (1, .inl x1), (2, .inl x2)], [.inl (cg M 4 0 1), .inl x2], zfC M)) (b := true) (by decide +kernel) rfl rfl ?_
    refine zic_ge Hy.1 (off := 74) (tgt := 81) (by decide +kernel) (by decide) (fun hb8 => ?_) (fun hb8 => ?_)
    · replace h := zite_t h hb8
      cases h
      exact zret_v Hy.1 Hy.2.2 hE (by decide +kernel)
    · replace h := zite_f h hb8
      refine zblq Hy.1 Hy.2.1 [(.iload 2, 1), (.iconst 5, 1)] (S' := (12, [(0, .inr (.inr (some (4, 0)))), (1, .inl x1), (2, .inl x2)], [.inl (5 : Int32), .inl x2], zfC M)) (b := true) (by decide +kernel) rfl rfl ?_
      refine zic_ge Hy.1 (off := 69) (tgt := 81) (by decide +kernel) (by decide) (fun hb7 => ?_) (fun hb7 => ?_)
      · replace h := zite_t h hb7
        cases h
        exact zret_v Hy.1 Hy.2.2 hE (by decide +kernel)
      · replace h := zite_f h hb7
        refine zblq Hy.1 Hy.2.1 [(.iconst 0, 1), (.istore 3, 1)] (S' := (17, [(0, .inr (.inr (some (4, 0)))), (1, .inl x1), (2, .inl x2), (3, .inl (0 : Int32))], [], zfC M)) (b := true) (by decide +kernel) rfl rfl ?_
        refine zGo_keep [0, 1, 2, 3] rfl ?_
        exact m4_matchSpots_17_ok Hy hE ih zfu x1 x2 (0 : Int32) M h
def m4_matchSpots (x1 : Int32) (M : cM) : Option cM := m4_matchSpots_2 zfu x1 (0 : Int32) M
theorem m4_matchSpots_ok {X : zX} {G : zG} (Hy : zHy X G q4_matchSpots zcC 3 68 (none)) {M' : cM} (hE : zEnd X G (none) (zfC M')) (x1 : Int32) (M : cM) (h : m4_matchSpots x1 M = some M') : zGo (X, q4_matchSpots, G) 0 0 (0, [(0, .inr (.inr (some (4, 0)))), (1, .inl x1)], [], zfC M) := by
  unfold m4_matchSpots at h
  refine zblq Hy.1 Hy.2.1 [(.iconst 0, 1), (.istore 2, 1)] (S' := (2, [(0, .inr (.inr (some (4, 0)))), (1, .inl x1), (2, .inl (0 : Int32))], [], zfC M)) (b := true) (by decide +kernel) rfl rfl ?_
  refine zGo_keep [0, 1, 2] rfl ?_
  exact m4_matchSpots_2_ok Hy hE zfu x1 (0 : Int32) M h
theorem m4_matchSpots_met {l : Launch} {G : zG} (hG : zGok G) (hcn : zgcn G = zcC) {x1 : Int32} {M : cM} {M' : cM} (h : m4_matchSpots x1 M = some M') : zMet l G yX4_matchSpots cX4_matchSpots 5 (none) 3 68 [.inr (.inr (some (4, 0))), .inl x1] (zfC M) (none) (zfC M') :=
  zMet_of hG tbX4_ok rfl (by decide +kernel) (Nat.le_of_ble_eq_true rfl) (fun X _ Z hA hE => m4_matchSpots_ok ⟨Z, hcn, hA⟩ hE x1 M h)
abbrev qJ7_fill_512 : ByteArray × Nat × String × zT := (cJ7_fill_53178, 4, RJ7, tbJ7)
def mJ7_fill_512_5 : Nat → Int32 → Int32 → Int32 → cM → Option cM
  | 0, _, _, _, _ => none
  | n + 1, x1, x2, x3, M => (if x3 ≤ x2 then some M else zgd (zin x2 487 && true) ((mJ7_fill_512_5 n) x1 (x2 + (1 : Int32)) x3 (cs M 512 0 (nx x2) x1)))
theorem mJ7_fill_512_5_ok {X : zX} {G : zG} (Hy : zHy X G qJ7_fill_512 zcC 0 0 (none)) {M' : cM} (hE : zEnd X G (none) (zfC M')) : ∀ (n : Nat) (x1 : Int32) (x2 : Int32) (x3 : Int32) (M : cM), mJ7_fill_512_5 n x1 x2 x3 M = some M' → zGo (X, qJ7_fill_512, G) 0 0 (5, [(0, .inr (.inr (some (512, 0)))), (1, .inl x1), (2, .inl x2), (3, .inl x3)], [], zfC M) := by
  intro n
  induction n with
  | zero => intro x1 x2 x3 M h; cases h
  | succ n ih =>
    intro x1 x2 x3 M h
    unfold mJ7_fill_512_5 at h
    refine zblq Hy.1 Hy.2.1 [(.iload 2, 1), (.iload 3, 1)] (S' := (7, [(0, .inr (.inr (some (512, 0)))), (1, .inl x1), (2, .inl x2), (3, .inl x3)], [.inl x3, .inl x2], zfC M)) (b := true) (by decide +kernel) rfl rfl ?_
    refine zic_ge Hy.1 (off := 13) (tgt := 20) (by decide +kernel) (by decide) (fun hb2 => ?_) (fun hb2 => ?_)
    · replace h := zite_t h hb2
      cases h
      exact zret_v Hy.1 Hy.2.2 hE (by decide +kernel)
    · replace h := zite_f h hb2
      obtain ⟨hg1, h⟩ := zgd_inv h
      refine zblq Hy.1 Hy.2.1 [(.aload 0, 1), (.iload 2, 1), (.iload 1, 1), (.iastore, 1), (.iinc 2 1, 3), (.ldc 5, 3)] (S' := (5, [(0, .inr (.inr (some (512, 0)))), (1, .inl x1), (2, .inl (x2 + (1 : Int32))), (3, .inl x3)], [], zfC (cs M 512 0 (nx x2) x1))) (b := zin x2 487 && true) (by decide +kernel) rfl hg1 ?_
      refine zGo_keep [0, 1, 2, 3] rfl ?_
      exact ih x1 (x2 + (1 : Int32)) x3 (cs M 512 0 (nx x2) x1) h
def mJ7_fill_512 (x1 : Int32) (M : cM) : Option cM := mJ7_fill_512_5 zfu x1 (0 : Int32) (487 : Int32) M
theorem mJ7_fill_512_ok {X : zX} {G : zG} (Hy : zHy X G qJ7_fill_512 zcC 0 0 (none)) {M' : cM} (hE : zEnd X G (none) (zfC M')) (x1 : Int32) (M : cM) (h : mJ7_fill_512 x1 M = some M') : zGo (X, qJ7_fill_512, G) 0 0 (0, [(0, .inr (.inr (some (512, 0)))), (1, .inl x1)], [], zfC M) := by
  unfold mJ7_fill_512 at h
  refine zblq Hy.1 Hy.2.1 [(.iconst 0, 1), (.istore 2, 1), (.aload 0, 1), (.arraylength, 1), (.istore 3, 1)] (S' := (5, [(0, .inr (.inr (some (512, 0)))), (1, .inl x1), (2, .inl (0 : Int32)), (3, .inl (487 : Int32))], [], zfC M)) (b := true) (by decide +kernel) rfl rfl ?_
  refine zGo_keep [0, 1, 2, 3] rfl ?_
  exact mJ7_fill_512_5_ok Hy hE zfu x1 (0 : Int32) (487 : Int32) M h
theorem mJ7_fill_512_met {l : Launch} {G : zG} (hG : zGok G) (hcn : zgcn G = zcC) {x1 : Int32} {M : cM} {M' : cM} (h : mJ7_fill_512 x1 M = some M') : zMet l G yJ7_fill_53178 cJ7_fill_53178 4 (none) 0 0 [.inr (.inr (some (512, 0))), .inl x1] (zfC M) (none) (zfC M') :=
  zMet_ofF hG tbJ7_ok rfl (by decide +kernel) (Nat.le_of_ble_eq_true rfl) (fun X _ Z hA hE => mJ7_fill_512_ok ⟨Z, hcn, hA⟩ hE x1 M h)
abbrev q4_heardPlace : ByteArray × Nat × String × zT := (cX4_heardPlace, 4, RX4, tbX4)
def m4_heardPlace_4 : Nat → Int32 → Int32 → Int32 → cM → Option (Int32 × cM)
  | 0, _, _, _, _ => none
  | n + 1, x1, x2, x3, M => (if (cg M 4 0 1) ≤ x3 then some (x2, M) else (if (5 : Int32) ≤ x3 then some (x2, M) else zbd (m4_spotIn x1 x3 M) (fun r1 M1 => zgd (zin (((6 : Int32) * x3) + r1) 30 && true) ((m4_heardPlace_4 n) x1 (((6 : Int32) * x2) + (cg M1 507 0 (nx (((6 : Int32) * x3) + r1)))) (x3 + (1 : Int32)) M1))))
theorem m4_heardPlace_4_ok {X : zX} {G : zG} (Hy : zHy X G q4_heardPlace zcC 1 23 (some .int)) {r : Int32} {M' : cM} (hE : zEnd X G (some (.inl r)) (zfC M')) : ∀ (n : Nat) (x1 : Int32) (x2 : Int32) (x3 : Int32) (M : cM), m4_heardPlace_4 n x1 x2 x3 M = some (r, M') → zGo (X, q4_heardPlace, G) 0 0 (4, [(0, .inr (.inr (some (4, 0)))), (1, .inl x1), (2, .inl x2), (3, .inl x3)], [], zfC M) := by
  intro n
  induction n with
  | zero => intro x1 x2 x3 M h; cases h
  | succ n ih =>
    intro x1 x2 x3 M h
    unfold m4_heardPlace_4 at h
    refine zblq Hy.1 Hy.2.1 [(.iload 3, 1), (.aload 0, 1), (.multianewarray 4 1, 3)] (S' := (9, [(0, .inr (.inr (some (4, 0)))), (1, .inl x1), (2, .inl x2), (3, .inl x3)], [.inl (cg M 4 0 1), .inl x3], zfC M)) (b := true) (by decide +kernel) rfl rfl ?_
    refine zic_ge Hy.1 (off := 36) (tgt := 45) (by decide +kernel) (by decide) (fun hb4 => ?_) (fun hb4 => ?_)
    · replace h := zite_t h hb4
      refine zblq Hy.1 Hy.2.1 [(.iload 2, 1)] (S' := (46, [(0, .inr (.inr (some (4, 0)))), (1, .inl x1), (2, .inl x2), (3, .inl x3)], [.inl x2], zfC M)) (b := true) (by decide +kernel) rfl rfl ?_
      cases h
      exact zret_i Hy.1 Hy.2.2 hE (by decide +kernel)
    · replace h := zite_f h hb4
      refine zblq Hy.1 Hy.2.1 [(.iload 3, 1), (.iconst 5, 1)] (S' := (14, [(0, .inr (.inr (some (4, 0)))), (1, .inl x1), (2, .inl x2), (3, .inl x3)], [.inl (5 : Int32), .inl x3], zfC M)) (b := true) (by decide +kernel) rfl rfl ?_
      refine zic_ge Hy.1 (off := 31) (tgt := 45) (by decide +kernel) (by decide) (fun hb3 => ?_) (fun hb3 => ?_)
      · replace h := zite_t h hb3
        refine zblq Hy.1 Hy.2.1 [(.iload 2, 1)] (S' := (46, [(0, .inr (.inr (some (4, 0)))), (1, .inl x1), (2, .inl x2), (3, .inl x3)], [.inl x2], zfC M)) (b := true) (by decide +kernel) rfl rfl ?_
        cases h
        exact zret_i Hy.1 Hy.2.2 hE (by decide +kernel)
      · replace h := zite_f h hb3
        refine zblq Hy.1 Hy.2.1 [(.iconst 6, 2), (.iload 2, 1), (.imul, 1), (.aload 0, 1), (.getfield 407, 3), (.iconst 6, 2), (.iload 3, 1), (.imul, 1), (.aload 0, 1), (.iload 1, 1), (.iload 3, 1)] (S' := (32, [(0, .inr (.inr (some (4, 0)))), (1, .inl x1), (2, .inl x2), (3, .inl x3)], [.inl x3, .inl x1, .inr (.inr (some (4, 0))), .inl ((6 : Int32) * x3), .inr (.inr (some (507, 0))), .inl ((6 : Int32) * x2)], zfC M)) (b := true) (by decide +kernel) rfl rfl ?_
        obtain ⟨r1, M1, hc1, h⟩ := zbd_inv h
        refine zcallV Hy.1 (as := [.inl x1, .inl x3]) (st := [.inl ((6 : Int32) * x3), .inr (.inr (some (507, 0))), .inl ((6 : Int32) * x2)]) (m4_spotIn_met (zOK_G Hy.1) Hy.2.1 hc1) cw4_105 m4_spotIn_in m4_spotIn_se (by decide) (zhlv Hy.2.1 rfl) rfl (zroom Hy.2.2 ⟨by decide, by decide⟩) rfl (by decide +kernel) ⟨Nat.zero_le _, Nat.zero_le _⟩ ?_
        obtain ⟨hg2, h⟩ := zgd_inv h
        refine zblq Hy.1 Hy.2.1 [(.iadd, 1), (.iaload, 1), (.iadd, 1), (.istore 2, 1), (.iinc 3 1, 3), (.ldc 4, 3)] (S' := (4, [(0, .inr (.inr (some (4, 0)))), (1, .inl x1), (2, .inl (((6 : Int32) * x2) + (cg M1 507 0 (nx (((6 : Int32) * x3) + r1))))), (3, .inl (x3 + (1 : Int32)))], [], zfC M1)) (b := zin (((6 : Int32) * x3) + r1) 30 && true) (by decide +kernel) rfl hg2 ?_
        refine zGo_keep [0, 1, 2, 3] rfl ?_
        exact ih x1 (((6 : Int32) * x2) + (cg M1 507 0 (nx (((6 : Int32) * x3) + r1)))) (x3 + (1 : Int32)) M1 h
def m4_heardPlace (x1 : Int32) (M : cM) : Option (Int32 × cM) := m4_heardPlace_4 zfu x1 (0 : Int32) (0 : Int32) M
theorem m4_heardPlace_ok {X : zX} {G : zG} (Hy : zHy X G q4_heardPlace zcC 1 23 (some .int)) {r : Int32} {M' : cM} (hE : zEnd X G (some (.inl r)) (zfC M')) (x1 : Int32) (M : cM) (h : m4_heardPlace x1 M = some (r, M')) : zGo (X, q4_heardPlace, G) 0 0 (0, [(0, .inr (.inr (some (4, 0)))), (1, .inl x1)], [], zfC M) := by
  unfold m4_heardPlace at h
  refine zblq Hy.1 Hy.2.1 [(.iconst 0, 1), (.istore 2, 1), (.iconst 0, 1), (.istore 3, 1)] (S' := (4, [(0, .inr (.inr (some (4, 0)))), (1, .inl x1), (2, .inl (0 : Int32)), (3, .inl (0 : Int32))], [], zfC M)) (b := true) (by decide +kernel) rfl rfl ?_
  refine zGo_keep [0, 1, 2, 3] rfl ?_
  exact m4_heardPlace_4_ok Hy hE zfu x1 (0 : Int32) (0 : Int32) M h
theorem m4_heardPlace_met {l : Launch} {G : zG} (hG : zGok G) (hcn : zgcn G = zcC) {x1 : Int32} {M : cM} {r : Int32} {M' : cM} (h : m4_heardPlace x1 M = some (r, M')) : zMet l G yX4_heardPlace cX4_heardPlace 4 (some .int) 1 23 [.inr (.inr (some (4, 0))), .inl x1] (zfC M) (some (.inl r)) (zfC M') :=
  zMet_of hG tbX4_ok rfl (by decide +kernel) (Nat.le_of_ble_eq_true rfl) (fun X _ Z hA hE => m4_heardPlace_ok ⟨Z, hcn, hA⟩ hE x1 M h)
abbrev q4_isSettledBy : ByteArray × Nat × String × zT := (cX4_isSettledBy, 6, RX4, tbX4)
def m4_isSettledBy_113 (k15 : Int32 → Int32 → cM → Option (Int32 × cM)) (x2 : Int32) (x3 : Int32) (M : cM) : Option (Int32 × cM) := k15 x2 (x3 + (1 : Int32)) M
theorem m4_isSettledBy_113_ok {X : zX} {G : zG} (Hy : zHy X G q4_isSettledBy zcC 4 92 (some .boolean)) {r : Int32} {M' : cM} (hE : zEnd X G (some (.inl r)) (zfC M')) {k15 : Int32 → Int32 → cM → Option (Int32 × cM)} (hk15 : ∀ (x2 : Int32) (x3 : Int32) (M : cM), k15 x2 x3 M = some (r, M') → zGo (X, q4_isSettledBy, G) 0 0 (15, [(0, .inr (.inr (some (4, 0)))), (2, .inl x2), (3, .inl x3)], [], zfC M)) (x2 : Int32) (x3 : Int32) (M : cM) (h : m4_isSettledBy_113 k15 x2 x3 M = some (r, M')) : zGo (X, q4_isSettledBy, G) 0 0 (113, [(0, .inr (.inr (some (4, 0)))), (2, .inl x2), (3, .inl x3)], [], zfC M) := by
  unfold m4_isSettledBy_113 at h
  refine zblq Hy.1 Hy.2.1 [(.iinc 3 1, 3), (.ldc 15, 3)] (S' := (15, [(0, .inr (.inr (some (4, 0)))), (2, .inl x2), (3, .inl (x3 + (1 : Int32)))], [], zfC M)) (b := true) (by decide +kernel) rfl rfl ?_
  refine zGo_keep [0, 2, 3] rfl ?_
  exact hk15 x2 (x3 + (1 : Int32)) M h
def m4_isSettledBy_15 : Nat → Int32 → Int32 → cM → Option (Int32 × cM)
  | 0, _, _, _ => none
  | n + 1, x2, x3, M => (if x2 ≤ x3 then some ((1 : Int32), M) else (if (7776 : Int32) ≤ x3 then some ((1 : Int32), M) else zgd (zin x3 7776 && true) (zbd (m4_heardPlace (zshr (cg M 510 0 (nx x3)) (1 : Int32)) M) (fun r4 M4 => (if r4 < 0 then m4_isSettledBy_113 (m4_isSettledBy_15 n) x2 x3 M4 else (if r4 < (7776 : Int32) then zgd (znz (16 : Int32) && (znz (16 : Int32) && (zin (r4 / (16 : Int32)) 487 && (zin x3 7776 && (zin (r4 / (16 : Int32)) 487 && (znz (16 : Int32) && (zin (r4 / (16 : Int32)) 487 && true))))))) ((if ((zshr (cg (cs M4 512 0 (nx (r4 / (16 : Int32))) ((cg M4 512 0 (nx (r4 / (16 : Int32)))) ||| (zshl ((1 : Int32) + ((cg M4 510 0 (nx x3)) &&& (1 : Int32))) ((2 : Int32) * (zrem r4 (16 : Int32)))))) 512 0 (nx (r4 / (16 : Int32)))) ((2 : Int32) * (zrem r4 (16 : Int32)))) &&& (3 : Int32)) = (3 : Int32) then some ((0 : Int32), cs M4 512 0 (nx (r4 / (16 : Int32))) ((cg M4 512 0 (nx (r4 / (16 : Int32)))) ||| (zshl ((1 : Int32) + ((cg M4 510 0 (nx x3)) &&& (1 : Int32))) ((2 : Int32) * (zrem r4 (16 : Int32)))))) else m4_isSettledBy_113 (m4_isSettledBy_15 n) x2 x3 (cs M4 512 0 (nx (r4 / (16 : Int32))) ((cg M4 512 0 (nx (r4 / (16 : Int32)))) ||| (zshl ((1 : Int32) + ((cg M4 510 0 (nx x3)) &&& (1 : Int32))) ((2 : Int32) * (zrem r4 (16 : Int32)))))))) else m4_isSettledBy_113 (m4_isSettledBy_15 n) x2 x3 M4))))))
theorem m4_isSettledBy_15_ok {X : zX} {G : zG} (Hy : zHy X G q4_isSettledBy zcC 4 92 (some .boolean)) {r : Int32} {M' : cM} (hE : zEnd X G (some (.inl r)) (zfC M')) : ∀ (n : Nat) (x2 : Int32) (x3 : Int32) (M : cM), m4_isSettledBy_15 n x2 x3 M = some (r, M') → zGo (X, q4_isSettledBy, G) 0 0 (15, [(0, .inr (.inr (some (4, 0)))), (2, .inl x2), (3, .inl x3)], [], zfC M) := by
  intro n
  induction n with
  | zero => intro x2 x3 M h; cases h
  | succ n ih =>
    intro x2 x3 M h
    unfold m4_isSettledBy_15 at h
    refine zblq Hy.1 Hy.2.1 [(.iload 3, 1), (.iload 2, 1)] (S' := (17, [(0, .inr (.inr (some (4, 0)))), (2, .inl x2), (3, .inl x3)], [.inl x2, .inl x3], zfC M)) (b := true) (by decide +kernel) rfl rfl ?_
    refine zic_ge Hy.1 (off := 102) (tgt := 119) (by decide +kernel) (by decide) (fun hb10 => ?_) (fun hb10 => ?_)
    · replace h := zite_t h hb10
      refine zblq Hy.1 Hy.2.1 [(.iconst 1, 1)] (S' := (120, [(0, .inr (.inr (some (4, 0)))), (2, .inl x2), (3, .inl x3)], [.inl (1 : Int32)], zfC M)) (b := true) (by decide +kernel) rfl rfl ?_
      cases h
      exact zret_z Hy.1 Hy.2.2 (by decide) hE (by decide +kernel)
    · replace h := zite_f h hb10
      refine zblq Hy.1 Hy.2.1 [(.iload 3, 1), (.iconst 7776, 3)] (S' := (24, [(0, .inr (.inr (some (4, 0)))), (2, .inl x2), (3, .inl x3)], [.inl (7776 : Int32), .inl x3], zfC M)) (b := true) (by decide +kernel) rfl rfl ?_
      refine zic_ge Hy.1 (off := 95) (tgt := 119) (by decide +kernel) (by decide) (fun hb9 => ?_) (fun hb9 => ?_)
      · replace h := zite_t h hb9
        refine zblq Hy.1 Hy.2.1 [(.iconst 1, 1)] (S' := (120, [(0, .inr (.inr (some (4, 0)))), (2, .inl x2), (3, .inl x3)], [.inl (1 : Int32)], zfC M)) (b := true) (by decide +kernel) rfl rfl ?_
        cases h
        exact zret_z Hy.1 Hy.2.2 (by decide) hE (by decide +kernel)
      · replace h := zite_f h hb9
        obtain ⟨hg3, h⟩ := zgd_inv h
        refine zblq Hy.1 Hy.2.1 [(.aload 0, 1), (.aload 0, 1), (.getfield 410, 3), (.iload 3, 1), (.iaload, 1), (.iconst 1, 1), (.ishr, 1)] (S' := (36, [(0, .inr (.inr (some (4, 0)))), (2, .inl x2), (3, .inl x3)], [.inl (zshr (cg M 510 0 (nx x3)) (1 : Int32)), .inr (.inr (some (4, 0)))], zfC M)) (b := zin x3 7776 && true) (by decide +kernel) rfl hg3 ?_
        obtain ⟨r4, M4, hc4, h⟩ := zbd_inv h
        refine zcallV Hy.1 (as := [.inl (zshr (cg M 510 0 (nx x3)) (1 : Int32))]) (st := []) (m4_heardPlace_met (zOK_G Hy.1) Hy.2.1 hc4) cw4_147 m4_heardPlace_in m4_heardPlace_se (by decide) (zhlv Hy.2.1 rfl) rfl (zroom Hy.2.2 ⟨by decide, by decide⟩) rfl (by decide +kernel) ⟨Nat.zero_le _, Nat.zero_le _⟩ ?_
        refine zblq Hy.1 Hy.2.1 [(.istore 4, 2), (.iload 4, 2)] (S' := (43, [(0, .inr (.inr (some (4, 0)))), (2, .inl x2), (3, .inl x3), (4, .inl r4)], [.inl r4], zfC M4)) (b := true) (by decide +kernel) rfl rfl ?_
        refine zif_lt Hy.1 (off := 70) (tgt := 113) (by decide +kernel) (by decide) (fun hb8 => ?_) (fun hb8 => ?_)
        · replace h := zite_t h hb8
          refine zGo_keep [0, 2, 3] rfl ?_
          exact m4_isSettledBy_113_ok Hy hE ih x2 x3 M4 h
        · replace h := zite_f h hb8
          refine zblq Hy.1 Hy.2.1 [(.iload 4, 2), (.iconst 7776, 3)] (S' := (51, [(0, .inr (.inr (some (4, 0)))), (2, .inl x2), (3, .inl x3), (4, .inl r4)], [.inl (7776 : Int32), .inl r4], zfC M4)) (b := true) (by decide +kernel) rfl rfl ?_
          refine zic_lt Hy.1 (off := 6) (tgt := 57) (by decide +kernel) (by decide) (fun hb7 => ?_) (fun hb7 => ?_)
          · replace h := zite_t h hb7
            obtain ⟨hg5, h⟩ := zgd_inv h
            refine zblq Hy.1 Hy.2.1 [(.iconst 2, 1), (.iload 4, 2), (.iconst 16, 2), (.irem, 1), (.imul, 1), (.istore 5, 2), (.aload 0, 1), (.getfield 412, 3), (.iload 4, 2), (.iconst 16, 2), (.idiv, 1), (.dup2, 1), (.iaload, 1), (.iconst 1, 1), (.aload 0, 1), (.getfield 410, 3), (.iload 3, 1), (.iaload, 1), (.iconst 1, 1), (.iand, 1), (.iadd, 1), (.iload 5, 2), (.ishl, 1), (.ior, 1), (.iastore, 1), (.aload 0, 1), (.getfield 412, 3), (.iload 4, 2), (.iconst 16, 2), (.idiv, 1), (.iaload, 1), (.iload 5, 2), (.ishr, 1), (.iconst 3, 1), (.iand, 1), (.iconst 3, 1)] (S' := (108, [(0, .inr (.inr (some (4, 0)))), (2, .inl x2), (3, .inl x3), (4, .inl r4), (5, .inl ((2 : Int32) * (zrem r4 (16 : Int32))))], [.inl (3 : Int32), .inl ((zshr (cg (cs M4 512 0 (nx (r4 / (16 : Int32))) ((cg M4 512 0 (nx (r4 / (16 : Int32)))) ||| (zshl ((1 : Int32) + ((cg M4 510 0 (nx x3)) &&& (1 : Int32))) ((2 : Int32) * (zrem r4 (16 : Int32)))))) 512 0 (nx (r4 / (16 : Int32)))) ((2 : Int32) * (zrem r4 (16 : Int32)))) &&& (3 : Int32))], zfC (cs M4 512 0 (nx (r4 / (16 : Int32))) ((cg M4 512 0 (nx (r4 / (16 : Int32)))) ||| (zshl ((1 : Int32) + ((cg M4 510 0 (nx x3)) &&& (1 : Int32))) ((2 : Int32) * (zrem r4 (16 : Int32)))))))) (b := znz (16 : Int32) && (znz (16 : Int32) && (zin (r4 / (16 : Int32)) 487 && (zin x3 7776 && (zin (r4 / (16 : Int32)) 487 && (znz (16 : Int32) && (zin (r4 / (16 : Int32)) 487 && true))))))) (by decide +kernel) rfl hg5 ?_
            refine zic_ne Hy.1 (off := 5) (tgt := 113) (by decide +kernel) (by decide) (fun hb6 => ?_) (fun hb6 => ?_)
            · replace h := zite_f h hb6
              refine zGo_keep [0, 2, 3] rfl ?_
              exact m4_isSettledBy_113_ok Hy hE ih x2 x3 (cs M4 512 0 (nx (r4 / (16 : Int32))) ((cg M4 512 0 (nx (r4 / (16 : Int32)))) ||| (zshl ((1 : Int32) + ((cg M4 510 0 (nx x3)) &&& (1 : Int32))) ((2 : Int32) * (zrem r4 (16 : Int32)))))) h
            · replace h := zite_t h hb6
              refine zblq Hy.1 Hy.2.1 [(.iconst 0, 1)] (S' := (112, [(0, .inr (.inr (some (4, 0)))), (2, .inl x2), (3, .inl x3), (4, .inl r4), (5, .inl ((2 : Int32) * (zrem r4 (16 : Int32))))], [.inl (0 : Int32)], zfC (cs M4 512 0 (nx (r4 / (16 : Int32))) ((cg M4 512 0 (nx (r4 / (16 : Int32)))) ||| (zshl ((1 : Int32) + ((cg M4 510 0 (nx x3)) &&& (1 : Int32))) ((2 : Int32) * (zrem r4 (16 : Int32)))))))) (b := true) (by decide +kernel) rfl rfl ?_
              cases h
              exact zret_z Hy.1 Hy.2.2 (by decide) hE (by decide +kernel)
          · replace h := zite_f h hb7
            refine zblq Hy.1 Hy.2.1 [(.ldc 113, 3)] (S' := (113, [(0, .inr (.inr (some (4, 0)))), (2, .inl x2), (3, .inl x3), (4, .inl r4)], [], zfC M4)) (b := true) (by decide +kernel) rfl rfl ?_
            refine zGo_keep [0, 2, 3] rfl ?_
            exact m4_isSettledBy_113_ok Hy hE ih x2 x3 M4 h
def m4_isSettledBy (x1 : Int32) (x2 : Int32) (M : cM) : Option (Int32 × cM) := zbv (m4_matchSpots x1 M) (fun M1 => zbv (mJ7_fill_512 (0 : Int32) M1) (fun M2 => m4_isSettledBy_15 zfu x2 (0 : Int32) M2))
theorem m4_isSettledBy_ok {X : zX} {G : zG} (Hy : zHy X G q4_isSettledBy zcC 4 92 (some .boolean)) {r : Int32} {M' : cM} (hE : zEnd X G (some (.inl r)) (zfC M')) (x1 : Int32) (x2 : Int32) (M : cM) (h : m4_isSettledBy x1 x2 M = some (r, M')) : zGo (X, q4_isSettledBy, G) 0 0 (0, [(0, .inr (.inr (some (4, 0)))), (1, .inl x1), (2, .inl x2)], [], zfC M) := by
  unfold m4_isSettledBy at h
  refine zblq Hy.1 Hy.2.1 [(.aload 0, 1), (.iload 1, 1)] (S' := (2, [(0, .inr (.inr (some (4, 0)))), (1, .inl x1), (2, .inl x2)], [.inl x1, .inr (.inr (some (4, 0)))], zfC M)) (b := true) (by decide +kernel) rfl rfl ?_
  obtain ⟨M1, hc1, h⟩ := zbv_inv h
  refine zcallV Hy.1 (as := [.inl x1]) (st := []) (m4_matchSpots_met (zOK_G Hy.1) Hy.2.1 hc1) cw4_144 m4_matchSpots_in m4_matchSpots_se (by decide) (zhlv Hy.2.1 rfl) rfl (zroom Hy.2.2 ⟨by decide, by decide⟩) rfl (by decide +kernel) ⟨Nat.zero_le _, Nat.zero_le _⟩ ?_
  refine zblq Hy.1 Hy.2.1 [(.aload 0, 1), (.getfield 412, 3), (.iconst 0, 1)] (S' := (10, [(0, .inr (.inr (some (4, 0)))), (1, .inl x1), (2, .inl x2)], [.inl (0 : Int32), .inr (.inr (some (512, 0)))], zfC M1)) (b := true) (by decide +kernel) rfl rfl ?_
  obtain ⟨M2, hc2, h⟩ := zbv_inv h
  refine zcallS Hy.1 (as := [.inr (.inr (some (512, 0))), .inl (0 : Int32)]) (st := []) (mJ7_fill_512_met (zOK_G Hy.1) Hy.2.1 hc2) cw4_50 mJ7_fill_in rfl (zroom Hy.2.2 ⟨by decide, by decide⟩) rfl (by decide +kernel) ⟨Nat.zero_le _, Nat.zero_le _⟩ ?_
  refine zblq Hy.1 Hy.2.1 [(.iconst 0, 1), (.istore 3, 1)] (S' := (15, [(0, .inr (.inr (some (4, 0)))), (1, .inl x1), (2, .inl x2), (3, .inl (0 : Int32))], [], zfC M2)) (b := true) (by decide +kernel) rfl rfl ?_
  refine zGo_keep [0, 2, 3] rfl ?_
  exact m4_isSettledBy_15_ok Hy hE zfu x2 (0 : Int32) M2 h
theorem m4_isSettledBy_met {l : Launch} {G : zG} (hG : zGok G) (hcn : zgcn G = zcC) {x1 : Int32} {x2 : Int32} {M : cM} {r : Int32} {M' : cM} (h : m4_isSettledBy x1 x2 M = some (r, M')) : zMet l G yX4_isSettledBy cX4_isSettledBy 6 (some .boolean) 4 92 [.inr (.inr (some (4, 0))), .inl x1, .inl x2] (zfC M) (some (.inl r)) (zfC M') :=
  zMet_of hG tbX4_ok rfl (by decide +kernel) (Nat.le_of_ble_eq_true rfl) (fun X _ Z hA hE => m4_isSettledBy_ok ⟨Z, hcn, hA⟩ hE x1 x2 M h)
