abbrev q10_readEvery : ByteArray × Nat × String × zT := (cX10_readEvery, 2, RX10, tbX10)
def m10_readEvery  (M : cM) : Option (Int32 × cM) := zbd (m10_skipWord 10 M) (fun r1 M1 => (if r1 = 0 then some ((0 : Int32), M1) else zbd (m10_numberAtHand M1) (fun r2 M2 => (if r2 < (1 : Int32) then some ((0 : Int32), M2) else (if r2 ≤ (60 : Int32) then zbv (m10_nextToken (cs M2 7 0 1 r2)) (fun M3 => some ((1 : Int32), M3)) else some ((0 : Int32), M2))))))
theorem m10_readEvery_ok {X : zX} {G : zG} (Hy : zHy X G q10_readEvery zcC 5 107 (some .boolean)) {r : Int32} {M' : cM} (hE : zEnd X G (some (.inl r)) (zfC M'))  (M : cM) (h : m10_readEvery M = some (r, M')) : zGo (X, q10_readEvery, G) 0 0 (0, [(0, .inr (.inr (some (10, 0))))], [], zfC M) := by
  unfold m10_readEvery at h
  refine zblq Hy.1 Hy.2.1 [(.aload 0, 1)] (S' := (1, [(0, .inr (.inr (some (10, 0))))], [.inr (.inr (some (10, 0)))], zfC M)) (b := true) (by decide +kernel) rfl rfl ?_
  refine zr_ldcS (w := 10) Hy.1 (by decide) rfl (by decide +kernel) ?_
  obtain ⟨r1, M1, hc1, h⟩ := zbd_inv h
  refine zcallV Hy.1 (as := [.inr (.inr (some (2100, 10)))]) (st := []) (m10_skipWord_met (zOK_G Hy.1) Hy.2.1 hc1) cw10_50 m10_skipWord_in m10_skipWord_se (by decide) (zhlv Hy.2.1 rfl) rfl (zroom Hy.2.2 ⟨by decide, by decide⟩) rfl (by decide +kernel) ⟨Nat.zero_le _, Nat.zero_le _⟩ ?_
  refine zif_ne Hy.1 (off := 5) (tgt := 11) (by decide +kernel) (by decide) (fun hb6 => ?_) (fun hb6 => ?_)
  · replace h := zite_f h hb6
    refine zblq Hy.1 Hy.2.1 [(.aload 0, 1)] (S' := (12, [(0, .inr (.inr (some (10, 0))))], [.inr (.inr (some (10, 0)))], zfC M1)) (b := true) (by decide +kernel) rfl rfl ?_
    obtain ⟨r2, M2, hc2, h⟩ := zbd_inv h
    refine zcallV Hy.1 (as := []) (st := []) (m10_numberAtHand_met (zOK_G Hy.1) Hy.2.1 hc2) cw10_78 m10_numberAtHand_in m10_numberAtHand_se (by decide) (zhlv Hy.2.1 rfl) rfl (zroom Hy.2.2 ⟨by decide, by decide⟩) rfl (by decide +kernel) ⟨Nat.zero_le _, Nat.zero_le _⟩ ?_
    refine zblq Hy.1 Hy.2.1 [(.istore 1, 1), (.iload 1, 1), (.iconst 1, 1)] (S' := (18, [(0, .inr (.inr (some (10, 0)))), (1, .inl r2)], [.inl (1 : Int32), .inl r2], zfC M2)) (b := true) (by decide +kernel) rfl rfl ?_
    refine zic_lt Hy.1 (off := 9) (tgt := 27) (by decide +kernel) (by decide) (fun hb5 => ?_) (fun hb5 => ?_)
    · replace h := zite_t h hb5
      refine zblq Hy.1 Hy.2.1 [(.iconst 0, 1)] (S' := (28, [(0, .inr (.inr (some (10, 0)))), (1, .inl r2)], [.inl (0 : Int32)], zfC M2)) (b := true) (by decide +kernel) rfl rfl ?_
      cases h
      exact zret_z Hy.1 Hy.2.2 (by decide) hE (by decide +kernel)
    · replace h := zite_f h hb5
      refine zblq Hy.1 Hy.2.1 [(.iload 1, 1), (.iconst 60, 2)] (S' := (24, [(0, .inr (.inr (some (10, 0)))), (1, .inl r2)], [.inl (60 : Int32), .inl r2], zfC M2)) (b := true) (by decide +kernel) rfl rfl ?_
      refine zic_le Hy.1 (off := 5) (tgt := 29) (by decide +kernel) (by decide) (fun hb4 => ?_) (fun hb4 => ?_)
      · replace h := zite_t h hb4
        refine zblq Hy.1 Hy.2.1 [(.aload 0, 1), (.getfield 1004, 3), (.iload 1, 1), (.invokeinterface 7 1, 3), (.aload 0, 1)] (S' := (38, [(0, .inr (.inr (some (10, 0)))), (1, .inl r2)], [.inr (.inr (some (10, 0)))], zfC (cs M2 7 0 1 r2))) (b := true) (by decide +kernel) rfl rfl ?_
        obtain ⟨M3, hc3, h⟩ := zbv_inv h
        refine zcallV Hy.1 (as := []) (st := []) (m10_nextToken_met (zOK_G Hy.1) Hy.2.1 hc3) cw10_32 m10_nextToken_in m10_nextToken_se (by decide) (zhlv Hy.2.1 rfl) rfl (zroom Hy.2.2 ⟨by decide, by decide⟩) rfl (by decide +kernel) ⟨Nat.zero_le _, Nat.zero_le _⟩ ?_
        refine zblq Hy.1 Hy.2.1 [(.iconst 1, 1)] (S' := (42, [(0, .inr (.inr (some (10, 0)))), (1, .inl r2)], [.inl (1 : Int32)], zfC M3)) (b := true) (by decide +kernel) rfl rfl ?_
        cases h
        exact zret_z Hy.1 Hy.2.2 (by decide) hE (by decide +kernel)
      · replace h := zite_f h hb4
        refine zblq Hy.1 Hy.2.1 [(.iconst 0, 1)] (S' := (28, [(0, .inr (.inr (some (10, 0)))), (1, .inl r2)], [.inl (0 : Int32)], zfC M2)) (b := true) (by decide +kernel) rfl rfl ?_
        cases h
        exact zret_z Hy.1 Hy.2.2 (by decide) hE (by decide +kernel)
  · replace h := zite_t h hb6
    refine zblq Hy.1 Hy.2.1 [(.iconst 0, 1)] (S' := (10, [(0, .inr (.inr (some (10, 0))))], [.inl (0 : Int32)], zfC M1)) (b := true) (by decide +kernel) rfl rfl ?_
    cases h
    exact zret_z Hy.1 Hy.2.2 (by decide) hE (by decide +kernel)
theorem m10_readEvery_met {l : Launch} {G : zG} (hG : zGok G) (hcn : zgcn G = zcC)  {M : cM} {r : Int32} {M' : cM} (h : m10_readEvery M = some (r, M')) : zMet l G yX10_readEvery cX10_readEvery 2 (some .boolean) 5 107 [.inr (.inr (some (10, 0)))] (zfC M) (some (.inl r)) (zfC M') :=
  zMet_of hG tbX10_ok rfl (by decide +kernel) (Nat.le_of_ble_eq_true rfl) (fun X _ Z hA hE => m10_readEvery_ok ⟨Z, hcn, hA⟩ hE M h)
abbrev q10_read : ByteArray × Nat × String × zT := (cX10_read, 2, RX10, tbX10)
def m10_read_53 (t0 : Int32) (M : cM) : Option (Int32 × cM) := (if t0 = 0 then some (cg M 10 0 2, M) else some ((-1 : Int32), M))
theorem m10_read_53_ok {X : zX} {G : zG} (Hy : zHy X G q10_read zcC 7 151 (some .int)) {r : Int32} {M' : cM} (hE : zEnd X G (some (.inl r)) (zfC M')) (t0 : Int32) (M : cM) (h : m10_read_53 t0 M = some (r, M')) : zGo (X, q10_read, G) 0 0 (53, [(0, .inr (.inr (some (10, 0))))], [.inl t0], zfC M) := by
  unfold m10_read_53 at h
  refine zblq Hy.1 Hy.2.1 [(.istore 1, 1), (.iload 1, 1)] (S' := (55, [(0, .inr (.inr (some (10, 0)))), (1, .inl t0)], [.inl t0], zfC M)) (b := true) (by decide +kernel) rfl rfl ?_
  refine zif_eq Hy.1 (off := 7) (tgt := 62) (by decide +kernel) (by decide) (fun hb4 => ?_) (fun hb4 => ?_)
  · replace h := zite_t h hb4
    refine zblq Hy.1 Hy.2.1 [(.aload 0, 1), (.multianewarray 10 2, 3)] (S' := (66, [(0, .inr (.inr (some (10, 0)))), (1, .inl t0)], [.inl (cg M 10 0 2)], zfC M)) (b := true) (by decide +kernel) rfl rfl ?_
    cases h
    exact zret_i Hy.1 Hy.2.2 hE (by decide +kernel)
  · replace h := zite_f h hb4
    refine zblq Hy.1 Hy.2.1 [(.iconst (-1), 1), (.ldc 66, 3)] (S' := (66, [(0, .inr (.inr (some (10, 0)))), (1, .inl t0)], [.inl (-1 : Int32)], zfC M)) (b := true) (by decide +kernel) rfl rfl ?_
    cases h
    exact zret_i Hy.1 Hy.2.2 hE (by decide +kernel)
def m10_read  (M : cM) : Option (Int32 × cM) := zbv (m7_clear 0 M) (fun M1 => zbv (m10_nextToken (cs M1 10 0 3 (0 : Int32))) (fun M2 => zbd (m10_readAim M2) (fun r3 M3 => (if r3 = 0 then m10_read_53 (0 : Int32) M3 else zbd (m10_readConds M3) (fun r5 M5 => (if r5 = 0 then m10_read_53 (0 : Int32) M5 else zbd (m10_readEvery M5) (fun r6 M6 => (if r6 = 0 then m10_read_53 (0 : Int32) M6 else (if (cg M6 10 0 2) = (cg M6 10 0 1) then m10_read_53 (1 : Int32) M6 else m10_read_53 (0 : Int32) M6)))))))))
theorem m10_read_ok {X : zX} {G : zG} (Hy : zHy X G q10_read zcC 7 151 (some .int)) {r : Int32} {M' : cM} (hE : zEnd X G (some (.inl r)) (zfC M'))  (M : cM) (h : m10_read M = some (r, M')) : zGo (X, q10_read, G) 0 0 (0, [(0, .inr (.inr (some (10, 0))))], [], zfC M) := by
  unfold m10_read at h
  refine zblq Hy.1 Hy.2.1 [(.aload 0, 1), (.getfield 1004, 3)] (S' := (4, [(0, .inr (.inr (some (10, 0))))], [.inr (.inr (some (7, 0)))], zfC M)) (b := true) (by decide +kernel) rfl rfl ?_
  obtain ⟨M1, hc1, h⟩ := zbv_inv h
  refine zcallV Hy.1 (as := []) (st := []) (m7_clear_met (zOK_G Hy.1) Hy.2.1 hc1) cw10_26 m7_clear_in m7_clear_se (by decide) (zhlv Hy.2.1 rfl) rfl (zroom Hy.2.2 ⟨by decide, by decide⟩) rfl (by decide +kernel) ⟨Nat.zero_le _, Nat.zero_le _⟩ ?_
  refine zblq Hy.1 Hy.2.1 [(.aload 0, 1), (.iconst 0, 1), (.invokeinterface 10 3, 3), (.aload 0, 1)] (S' := (13, [(0, .inr (.inr (some (10, 0))))], [.inr (.inr (some (10, 0)))], zfC (cs M1 10 0 3 (0 : Int32)))) (b := true) (by decide +kernel) rfl rfl ?_
  obtain ⟨M2, hc2, h⟩ := zbv_inv h
  refine zcallV Hy.1 (as := []) (st := []) (m10_nextToken_met (zOK_G Hy.1) Hy.2.1 hc2) cw10_32 m10_nextToken_in m10_nextToken_se (by decide) (zhlv Hy.2.1 rfl) rfl (zroom Hy.2.2 ⟨by decide, by decide⟩) rfl (by decide +kernel) ⟨Nat.zero_le _, Nat.zero_le _⟩ ?_
  refine zblq Hy.1 Hy.2.1 [(.aload 0, 1)] (S' := (17, [(0, .inr (.inr (some (10, 0))))], [.inr (.inr (some (10, 0)))], zfC M2)) (b := true) (by decide +kernel) rfl rfl ?_
  obtain ⟨r3, M3, hc3, h⟩ := zbd_inv h
  refine zcallV Hy.1 (as := []) (st := []) (m10_readAim_met (zOK_G Hy.1) Hy.2.1 hc3) cw10_35 m10_readAim_in m10_readAim_se (by decide) (zhlv Hy.2.1 rfl) rfl (zroom Hy.2.2 ⟨by decide, by decide⟩) rfl (by decide +kernel) ⟨Nat.zero_le _, Nat.zero_le _⟩ ?_
  refine zif_eq Hy.1 (off := 32) (tgt := 52) (by decide +kernel) (by decide) (fun hb10 => ?_) (fun hb10 => ?_)
  · replace h := zite_t h hb10
    refine zblq Hy.1 Hy.2.1 [(.iconst 0, 1)] (S' := (53, [(0, .inr (.inr (some (10, 0))))], [.inl (0 : Int32)], zfC M3)) (b := true) (by decide +kernel) rfl rfl ?_
    refine zGo_keep [0] rfl ?_
    exact m10_read_53_ok Hy hE (0 : Int32) M3 h
  · replace h := zite_f h hb10
    refine zblq Hy.1 Hy.2.1 [(.aload 0, 1)] (S' := (24, [(0, .inr (.inr (some (10, 0))))], [.inr (.inr (some (10, 0)))], zfC M3)) (b := true) (by decide +kernel) rfl rfl ?_
    obtain ⟨r5, M5, hc5, h⟩ := zbd_inv h
    refine zcallV Hy.1 (as := []) (st := []) (m10_readConds_met (zOK_G Hy.1) Hy.2.1 hc5) cw10_39 m10_readConds_in m10_readConds_se (by decide) (zhlv Hy.2.1 rfl) rfl (zroom Hy.2.2 ⟨by decide, by decide⟩) rfl (by decide +kernel) ⟨Nat.zero_le _, Nat.zero_le _⟩ ?_
    refine zif_eq Hy.1 (off := 25) (tgt := 52) (by decide +kernel) (by decide) (fun hb9 => ?_) (fun hb9 => ?_)
    · replace h := zite_t h hb9
      refine zblq Hy.1 Hy.2.1 [(.iconst 0, 1)] (S' := (53, [(0, .inr (.inr (some (10, 0))))], [.inl (0 : Int32)], zfC M5)) (b := true) (by decide +kernel) rfl rfl ?_
      refine zGo_keep [0] rfl ?_
      exact m10_read_53_ok Hy hE (0 : Int32) M5 h
    · replace h := zite_f h hb9
      refine zblq Hy.1 Hy.2.1 [(.aload 0, 1)] (S' := (31, [(0, .inr (.inr (some (10, 0))))], [.inr (.inr (some (10, 0)))], zfC M5)) (b := true) (by decide +kernel) rfl rfl ?_
      obtain ⟨r6, M6, hc6, h⟩ := zbd_inv h
      refine zcallV Hy.1 (as := []) (st := []) (m10_readEvery_met (zOK_G Hy.1) Hy.2.1 hc6) cw10_42 m10_readEvery_in m10_readEvery_se (by decide) (zhlv Hy.2.1 rfl) rfl (zroom Hy.2.2 ⟨by decide, by decide⟩) rfl (by decide +kernel) ⟨Nat.zero_le _, Nat.zero_le _⟩ ?_
      refine zif_eq Hy.1 (off := 18) (tgt := 52) (by decide +kernel) (by decide) (fun hb8 => ?_) (fun hb8 => ?_)
      · replace h := zite_t h hb8
        refine zblq Hy.1 Hy.2.1 [(.iconst 0, 1)] (S' := (53, [(0, .inr (.inr (some (10, 0))))], [.inl (0 : Int32)], zfC M6)) (b := true) (by decide +kernel) rfl rfl ?_
        refine zGo_keep [0] rfl ?_
        exact m10_read_53_ok Hy hE (0 : Int32) M6 h
      · replace h := zite_f h hb8
        refine zblq Hy.1 Hy.2.1 [(.aload 0, 1), (.multianewarray 10 2, 3), (.aload 0, 1), (.multianewarray 10 1, 3)] (S' := (45, [(0, .inr (.inr (some (10, 0))))], [.inl (cg M6 10 0 1), .inl (cg M6 10 0 2)], zfC M6)) (b := true) (by decide +kernel) rfl rfl ?_
        refine zic_ne Hy.1 (off := 7) (tgt := 52) (by decide +kernel) (by decide) (fun hb7 => ?_) (fun hb7 => ?_)
        · replace h := zite_f h hb7
          refine zblq Hy.1 Hy.2.1 [(.iconst 0, 1)] (S' := (53, [(0, .inr (.inr (some (10, 0))))], [.inl (0 : Int32)], zfC M6)) (b := true) (by decide +kernel) rfl rfl ?_
          refine zGo_keep [0] rfl ?_
          exact m10_read_53_ok Hy hE (0 : Int32) M6 h
        · replace h := zite_t h hb7
          refine zblq Hy.1 Hy.2.1 [(.iconst 1, 1), (.ldc 53, 3)] (S' := (53, [(0, .inr (.inr (some (10, 0))))], [.inl (1 : Int32)], zfC M6)) (b := true) (by decide +kernel) rfl rfl ?_
          refine zGo_keep [0] rfl ?_
          exact m10_read_53_ok Hy hE (1 : Int32) M6 h
theorem m10_read_met {l : Launch} {G : zG} (hG : zGok G) (hcn : zgcn G = zcC)  {M : cM} {r : Int32} {M' : cM} (h : m10_read M = some (r, M')) : zMet l G yX10_read cX10_read 2 (some .int) 7 151 [.inr (.inr (some (10, 0)))] (zfC M) (some (.inl r)) (zfC M') :=
  zMet_of hG tbX10_ok rfl (by decide +kernel) (Nat.le_of_ble_eq_true rfl) (fun X _ Z hA hE => m10_read_ok ⟨Z, hcn, hA⟩ hE M h)
abbrev q11_fault : ByteArray × Nat × String × zT := (cX11_fault, 1, RX11, tbX11)
def m11_fault  (M : cM) : Option (Int32 × cM) := zbd (m10_read M) (fun r1 M1 => some (r1, M1))
theorem m11_fault_ok {X : zX} {G : zG} (Hy : zHy X G q11_fault zcC 8 172 (some .int)) {r : Int32} {M' : cM} (hE : zEnd X G (some (.inl r)) (zfC M'))  (M : cM) (h : m11_fault M = some (r, M')) : zGo (X, q11_fault, G) 0 0 (0, [(0, .inr (.inr (some (11, 0))))], [], zfC M) := by
  unfold m11_fault at h
  refine zblq Hy.1 Hy.2.1 [(.aload 0, 1), (.getfield 1101, 3)] (S' := (4, [(0, .inr (.inr (some (11, 0))))], [.inr (.inr (some (10, 0)))], zfC M)) (b := true) (by decide +kernel) rfl rfl ?_
  obtain ⟨r1, M1, hc1, h⟩ := zbd_inv h
  refine zcallV Hy.1 (as := []) (st := []) (m10_read_met (zOK_G Hy.1) Hy.2.1 hc1) cw11_171 m10_read_in m10_read_se (by decide) (zhlv Hy.2.1 rfl) rfl (zroom Hy.2.2 ⟨by decide, by decide⟩) rfl (by decide +kernel) ⟨Nat.zero_le _, Nat.zero_le _⟩ ?_
  cases h
  exact zret_i Hy.1 Hy.2.2 hE (by decide +kernel)
theorem m11_fault_met {l : Launch} {G : zG} (hG : zGok G) (hcn : zgcn G = zcC)  {M : cM} {r : Int32} {M' : cM} (h : m11_fault M = some (r, M')) : zMet l G yX11_fault cX11_fault 1 (some .int) 8 172 [.inr (.inr (some (11, 0)))] (zfC M) (some (.inl r)) (zfC M') :=
  zMet_of hG tbX11_ok rfl (by decide +kernel) (Nat.le_of_ble_eq_true rfl) (fun X _ Z hA hE => m11_fault_ok ⟨Z, hcn, hA⟩ hE M h)
abbrev q7_copy : ByteArray × Nat × String × zT := (cX7_copy, 3, RX7, tbX7)
def m7_copy_68 (k26 : Nat → Nat → Int32 → cM → Option cM) (i0 : Nat) (i1 : Nat) (x2 : Int32) (M : cM) : Option cM := k26 i0 i1 (x2 + (1 : Int32)) M
theorem m7_copy_68_ok {X : zX} {G : zG} (Hy : zHy X G q7_copy zcC 0 0 (none)) {M' : cM} (hE : zEnd X G (none) (zfC M')) {k26 : Nat → Nat → Int32 → cM → Option cM} (hk26 : ∀ (i0 : Nat) (i1 : Nat) (x2 : Int32) (M : cM), k26 i0 i1 x2 M = some M' → zGo (X, q7_copy, G) 0 0 (26, [(0, .inr (.inr (some (7, i0)))), (1, .inr (.inr (some (7, i1)))), (2, .inl x2)], [], zfC M)) (i0 : Nat) (i1 : Nat) (x2 : Int32) (M : cM) (h : m7_copy_68 k26 i0 i1 x2 M = some M') : zGo (X, q7_copy, G) 0 0 (68, [(0, .inr (.inr (some (7, i0)))), (1, .inr (.inr (some (7, i1)))), (2, .inl x2)], [], zfC M) := by
  unfold m7_copy_68 at h
  refine zblq Hy.1 Hy.2.1 [(.iinc 2 1, 3), (.ldc 26, 3)] (S' := (26, [(0, .inr (.inr (some (7, i0)))), (1, .inr (.inr (some (7, i1)))), (2, .inl (x2 + (1 : Int32)))], [], zfC M)) (b := true) (by decide +kernel) rfl rfl ?_
  refine zGo_keep [0, 1, 2] rfl ?_
  exact hk26 i0 i1 (x2 + (1 : Int32)) M h
def m7_copy_26 : Nat → Nat → Nat → Int32 → cM → Option cM
  | 0, _, _, _, _ => none
  | n + 1, i0, i1, x2, M => (if (8 : Int32) ≤ x2 then some M else zgd (Nat.blt i0 2 && (Nat.blt i1 2 && ((Nat.blt i1 2 && zin x2 8) && ((Nat.blt i0 2 && zin x2 8) && (Nat.blt i0 2 && (Nat.blt i1 2 && ((Nat.blt i1 2 && zin x2 8) && ((Nat.blt i0 2 && zin x2 8) && (Nat.blt i0 2 && (Nat.blt i1 2 && ((Nat.blt i1 2 && zin x2 8) && ((Nat.blt i0 2 && zin x2 8) && true)))))))))))) (m7_copy_68 (m7_copy_26 n) i0 i1 x2 (cs (cs (cs M 803 i0 (nx x2) (vp_nar .boolean (cg M 803 i1 (nx x2)))) 804 i0 (nx x2) (vp_nar .boolean (cg (cs M 803 i0 (nx x2) (vp_nar .boolean (cg M 803 i1 (nx x2)))) 804 i1 (nx x2)))) 805 i0 (nx x2) (cg (cs (cs M 803 i0 (nx x2) (vp_nar .boolean (cg M 803 i1 (nx x2)))) 804 i0 (nx x2) (vp_nar .boolean (cg (cs M 803 i0 (nx x2) (vp_nar .boolean (cg M 803 i1 (nx x2)))) 804 i1 (nx x2)))) 805 i1 (nx x2)))))
theorem m7_copy_26_ok {X : zX} {G : zG} (Hy : zHy X G q7_copy zcC 0 0 (none)) {M' : cM} (hE : zEnd X G (none) (zfC M')) : ∀ (n : Nat) (i0 : Nat) (i1 : Nat) (x2 : Int32) (M : cM), m7_copy_26 n i0 i1 x2 M = some M' → zGo (X, q7_copy, G) 0 0 (26, [(0, .inr (.inr (some (7, i0)))), (1, .inr (.inr (some (7, i1)))), (2, .inl x2)], [], zfC M) := by
  intro n
  induction n with
  | zero => intro i0 i1 x2 M h; cases h
  | succ n ih =>
    intro i0 i1 x2 M h
    unfold m7_copy_26 at h
    refine zblq Hy.1 Hy.2.1 [(.iload 2, 1), (.iconst 8, 2)] (S' := (29, [(0, .inr (.inr (some (7, i0)))), (1, .inr (.inr (some (7, i1)))), (2, .inl x2)], [.inl (8 : Int32), .inl x2], zfC M)) (b := true) (by decide +kernel) rfl rfl ?_
    refine zic_ge Hy.1 (off := 45) (tgt := 74) (by decide +kernel) (by decide) (fun hb3 => ?_) (fun hb3 => ?_)
    · replace h := zite_t h hb3
      cases h
      exact zret_v Hy.1 Hy.2.2 hE (by decide +kernel)
    · replace h := zite_f h hb3
      obtain ⟨hg2, h⟩ := zgd_inv h
      refine zblq Hy.1 Hy.2.1 [(.aload 0, 1), (.getfield 703, 3), (.iload 2, 1), (.aload 1, 1), (.getfield 703, 3), (.iload 2, 1), (.baload, 1), (.bastore, 1), (.aload 0, 1), (.getfield 704, 3), (.iload 2, 1), (.aload 1, 1), (.getfield 704, 3), (.iload 2, 1), (.baload, 1), (.bastore, 1), (.aload 0, 1), (.getfield 705, 3), (.iload 2, 1), (.aload 1, 1), (.getfield 705, 3), (.iload 2, 1), (.iaload, 1), (.iastore, 1)] (S' := (68, [(0, .inr (.inr (some (7, i0)))), (1, .inr (.inr (some (7, i1)))), (2, .inl x2)], [], zfC (cs (cs (cs M 803 i0 (nx x2) (vp_nar .boolean (cg M 803 i1 (nx x2)))) 804 i0 (nx x2) (vp_nar .boolean (cg (cs M 803 i0 (nx x2) (vp_nar .boolean (cg M 803 i1 (nx x2)))) 804 i1 (nx x2)))) 805 i0 (nx x2) (cg (cs (cs M 803 i0 (nx x2) (vp_nar .boolean (cg M 803 i1 (nx x2)))) 804 i0 (nx x2) (vp_nar .boolean (cg (cs M 803 i0 (nx x2) (vp_nar .boolean (cg M 803 i1 (nx x2)))) 804 i1 (nx x2)))) 805 i1 (nx x2))))) (b := Nat.blt i0 2 && (Nat.blt i1 2 && ((Nat.blt i1 2 && zin x2 8) && ((Nat.blt i0 2 && zin x2 8) && (Nat.blt i0 2 && (Nat.blt i1 2 && ((Nat.blt i1 2 && zin x2 8) && ((Nat.blt i0 2 && zin x2 8) && (Nat.blt i0 2 && (Nat.blt i1 2 && ((Nat.blt i1 2 && zin x2 8) && ((Nat.blt i0 2 && zin x2 8) && true)))))))))))) (by decide +kernel) rfl hg2 ?_
      refine zGo_keep [0, 1, 2] rfl ?_
      exact m7_copy_68_ok Hy hE ih i0 i1 x2 (cs (cs (cs M 803 i0 (nx x2) (vp_nar .boolean (cg M 803 i1 (nx x2)))) 804 i0 (nx x2) (vp_nar .boolean (cg (cs M 803 i0 (nx x2) (vp_nar .boolean (cg M 803 i1 (nx x2)))) 804 i1 (nx x2)))) 805 i0 (nx x2) (cg (cs (cs M 803 i0 (nx x2) (vp_nar .boolean (cg M 803 i1 (nx x2)))) 804 i0 (nx x2) (vp_nar .boolean (cg (cs M 803 i0 (nx x2) (vp_nar .boolean (cg M 803 i1 (nx x2)))) 804 i1 (nx x2)))) 805 i1 (nx x2))) h
def m7_copy (i0 : Nat) (i1 : Nat) (M : cM) : Option cM := zgd (Nat.blt i1 2 && ((Nat.blt i0 2 && true) && (Nat.blt i1 2 && ((Nat.blt i0 2 && true) && (Nat.blt i1 2 && ((Nat.blt i0 2 && true) && true)))))) (m7_copy_26 zfu i0 i1 (0 : Int32) (cs (cs (cs M 7 i0 0 (cg M 7 i1 0)) 7 i0 1 (cg (cs M 7 i0 0 (cg M 7 i1 0)) 7 i1 1)) 7 i0 2 (cg (cs (cs M 7 i0 0 (cg M 7 i1 0)) 7 i0 1 (cg (cs M 7 i0 0 (cg M 7 i1 0)) 7 i1 1)) 7 i1 2)))
theorem m7_copy_ok {X : zX} {G : zG} (Hy : zHy X G q7_copy zcC 0 0 (none)) {M' : cM} (hE : zEnd X G (none) (zfC M')) (i0 : Nat) (i1 : Nat) (M : cM) (h : m7_copy i0 i1 M = some M') : zGo (X, q7_copy, G) 0 0 (0, [(0, .inr (.inr (some (7, i0)))), (1, .inr (.inr (some (7, i1))))], [], zfC M) := by
  unfold m7_copy at h
  obtain ⟨hg1, h⟩ := zgd_inv h
  refine zblq Hy.1 Hy.2.1 [(.aload 0, 1), (.aload 1, 1), (.multianewarray 7 0, 3), (.invokeinterface 7 0, 3), (.aload 0, 1), (.aload 1, 1), (.multianewarray 7 1, 3), (.invokeinterface 7 1, 3), (.aload 0, 1), (.aload 1, 1), (.multianewarray 7 2, 3), (.invokeinterface 7 2, 3), (.iconst 0, 1), (.istore 2, 1)] (S' := (26, [(0, .inr (.inr (some (7, i0)))), (1, .inr (.inr (some (7, i1)))), (2, .inl (0 : Int32))], [], zfC (cs (cs (cs M 7 i0 0 (cg M 7 i1 0)) 7 i0 1 (cg (cs M 7 i0 0 (cg M 7 i1 0)) 7 i1 1)) 7 i0 2 (cg (cs (cs M 7 i0 0 (cg M 7 i1 0)) 7 i0 1 (cg (cs M 7 i0 0 (cg M 7 i1 0)) 7 i1 1)) 7 i1 2)))) (b := Nat.blt i1 2 && ((Nat.blt i0 2 && true) && (Nat.blt i1 2 && ((Nat.blt i0 2 && true) && (Nat.blt i1 2 && ((Nat.blt i0 2 && true) && true)))))) (by decide +kernel) rfl hg1 ?_
  refine zGo_keep [0, 1, 2] rfl ?_
  exact m7_copy_26_ok Hy hE zfu i0 i1 (0 : Int32) (cs (cs (cs M 7 i0 0 (cg M 7 i1 0)) 7 i0 1 (cg (cs M 7 i0 0 (cg M 7 i1 0)) 7 i1 1)) 7 i0 2 (cg (cs (cs M 7 i0 0 (cg M 7 i1 0)) 7 i0 1 (cg (cs M 7 i0 0 (cg M 7 i1 0)) 7 i1 1)) 7 i1 2)) h
theorem m7_copy_met {l : Launch} {G : zG} (hG : zGok G) (hcn : zgcn G = zcC) {i0 : Nat} {i1 : Nat} {M : cM} {M' : cM} (h : m7_copy i0 i1 M = some M') : zMet l G yX7_copy cX7_copy 3 (none) 0 0 [.inr (.inr (some (7, i0))), .inr (.inr (some (7, i1)))] (zfC M) (none) (zfC M') :=
  zMet_of hG tbX7_ok rfl (by decide +kernel) (Nat.le_of_ble_eq_true rfl) (fun X _ Z hA hE => m7_copy_ok ⟨Z, hcn, hA⟩ hE i0 i1 M h)
abbrev q0_pose : ByteArray × Nat × String × zT := (cX0_pose, 3, RX0, tbX0)
def m0_pose_17 : Nat → Int32 → cM → Option cM
  | 0, _, _ => none
  | n + 1, x2, M => (if (cg M 3 0 4) ≤ x2 then some M else zbd (m3_of x2 M) (fun r3 M3 => zgd (Nat.blt r3 10) (zbd (m2_forgetSums r3 M3) (fun r4 M4 => (m0_pose_17 n) (x2 + (1 : Int32)) M4))))
theorem m0_pose_17_ok {X : zX} {G : zG} (Hy : zHy X G q0_pose zcC 3 65 (none)) {M' : cM} (hE : zEnd X G (none) (zfC M')) : ∀ (n : Nat) (x2 : Int32) (M : cM), m0_pose_17 n x2 M = some M' → zGo (X, q0_pose, G) 0 0 (17, [(0, .inr (.inr (some (0, 0)))), (2, .inl x2)], [], zfC M) := by
  intro n
  induction n with
  | zero => intro x2 M h; cases h
  | succ n ih =>
    intro x2 M h
    unfold m0_pose_17 at h
    refine zblq Hy.1 Hy.2.1 [(.iload 2, 1), (.aload 0, 1), (.getfield 0, 3), (.multianewarray 3 4, 3)] (S' := (25, [(0, .inr (.inr (some (0, 0)))), (2, .inl x2)], [.inl (cg M 3 0 4), .inl x2], zfC M)) (b := true) (by decide +kernel) rfl rfl ?_
    refine zic_ge Hy.1 (off := 21) (tgt := 46) (by decide +kernel) (by decide) (fun hb6 => ?_) (fun hb6 => ?_)
    · replace h := zite_t h hb6
      cases h
      exact zret_v Hy.1 Hy.2.2 hE (by decide +kernel)
    · replace h := zite_f h hb6
      refine zblq Hy.1 Hy.2.1 [(.aload 0, 1), (.getfield 0, 3), (.iload 2, 1)] (S' := (33, [(0, .inr (.inr (some (0, 0)))), (2, .inl x2)], [.inl x2, .inr (.inr (some (3, 0)))], zfC M)) (b := true) (by decide +kernel) rfl rfl ?_
      obtain ⟨r3, M3, hc3, h⟩ := zbd_inv h
      refine zcallV Hy.1 (as := [.inl x2]) (st := []) (m3_of_met (zOK_G Hy.1) Hy.2.1 hc3) cw0_52 m3_of_in m3_of_se (by decide) (zhlv Hy.2.1 rfl) rfl (zroom Hy.2.2 ⟨by decide, by decide⟩) rfl (by decide +kernel) ⟨Nat.zero_le _, Nat.zero_le _⟩ ?_
      obtain ⟨hg5, h⟩ := zgd_inv h
      obtain ⟨r4, M4, hc4, h⟩ := zbd_inv h
      refine zcallV Hy.1 (as := []) (st := []) (m2_forgetSums_met (zOK_G Hy.1) Hy.2.1 hc4) cw0_56 m2_forgetSums_in m2_forgetSums_se (by decide) (zhlv Hy.2.1 hg5) rfl (zroom Hy.2.2 ⟨by decide, by decide⟩) rfl (by decide +kernel) ⟨Nat.zero_le _, Nat.zero_le _⟩ ?_
      refine zblq Hy.1 Hy.2.1 [(.pop, 1), (.iinc 2 1, 3), (.ldc 17, 3)] (S' := (17, [(0, .inr (.inr (some (0, 0)))), (2, .inl (x2 + (1 : Int32)))], [], zfC M4)) (b := true) (by decide +kernel) rfl rfl ?_
      refine zGo_keep [0, 2] rfl ?_
      exact ih (x2 + (1 : Int32)) M4 h
def m0_pose (i1 : Nat) (M : cM) : Option cM := zbv (m7_copy 1 i1 M) (fun M1 => zbv (m9_clear 50 M1) (fun M2 => m0_pose_17 zfu (0 : Int32) M2))
theorem m0_pose_ok {X : zX} {G : zG} (Hy : zHy X G q0_pose zcC 3 65 (none)) {M' : cM} (hE : zEnd X G (none) (zfC M')) (i1 : Nat) (M : cM) (h : m0_pose i1 M = some M') : zGo (X, q0_pose, G) 0 0 (0, [(0, .inr (.inr (some (0, 0)))), (1, .inr (.inr (some (7, i1))))], [], zfC M) := by
  unfold m0_pose at h
  refine zblq Hy.1 Hy.2.1 [(.aload 0, 1), (.getfield 1, 3), (.aload 1, 1)] (S' := (5, [(0, .inr (.inr (some (0, 0)))), (1, .inr (.inr (some (7, i1))))], [.inr (.inr (some (7, i1))), .inr (.inr (some (7, 1)))], zfC M)) (b := true) (by decide +kernel) rfl rfl ?_
  obtain ⟨M1, hc1, h⟩ := zbv_inv h
  refine zcallV Hy.1 (as := [.inr (.inr (some (7, i1)))]) (st := []) (m7_copy_met (zOK_G Hy.1) Hy.2.1 hc1) cw0_40 m7_copy_in m7_copy_se (by decide) (zhlv Hy.2.1 rfl) rfl (zroom Hy.2.2 ⟨by decide, by decide⟩) rfl (by decide +kernel) ⟨Nat.zero_le _, Nat.zero_le _⟩ ?_
  refine zblq Hy.1 Hy.2.1 [(.aload 0, 1), (.getfield 2, 3)] (S' := (12, [(0, .inr (.inr (some (0, 0)))), (1, .inr (.inr (some (7, i1))))], [.inr (.inr (some (9, 50)))], zfC M1)) (b := true) (by decide +kernel) rfl rfl ?_
  obtain ⟨M2, hc2, h⟩ := zbv_inv h
  refine zcallV Hy.1 (as := []) (st := []) (m9_clear_met (zOK_G Hy.1) Hy.2.1 hc2) cw0_44 m9_clear_in m9_clear_se (by decide) (zhlv Hy.2.1 rfl) rfl (zroom Hy.2.2 ⟨by decide, by decide⟩) rfl (by decide +kernel) ⟨Nat.zero_le _, Nat.zero_le _⟩ ?_
  refine zblq Hy.1 Hy.2.1 [(.iconst 0, 1), (.istore 2, 1)] (S' := (17, [(0, .inr (.inr (some (0, 0)))), (1, .inr (.inr (some (7, i1)))), (2, .inl (0 : Int32))], [], zfC M2)) (b := true) (by decide +kernel) rfl rfl ?_
  refine zGo_keep [0, 2] rfl ?_
  exact m0_pose_17_ok Hy hE zfu (0 : Int32) M2 h
theorem m0_pose_met {l : Launch} {G : zG} (hG : zGok G) (hcn : zgcn G = zcC) {i1 : Nat} {M : cM} {M' : cM} (h : m0_pose i1 M = some M') : zMet l G yX0_pose cX0_pose 3 (none) 3 65 [.inr (.inr (some (0, 0))), .inr (.inr (some (7, i1)))] (zfC M) (none) (zfC M') :=
  zMet_of hG tbX0_ok rfl (by decide +kernel) (Nat.le_of_ble_eq_true rfl) (fun X _ Z hA hE => m0_pose_ok ⟨Z, hcn, hA⟩ hE i1 M h)
abbrev q11_ask : ByteArray × Nat × String × zT := (cX11_ask, 1, RX11, tbX11)
def m11_ask  (M : cM) : Option (Int32 × cM) := zbd (m10_read M) (fun r1 M1 => (if r1 = (-1 : Int32) then zbv (m0_pose 0 M1) (fun M2 => some (cg (cs M2 10 0 1 (0 : Int32)) 7 1 1, cs M2 10 0 1 (0 : Int32))) else some ((-4 : Int32), M1)))
theorem m11_ask_ok {X : zX} {G : zG} (Hy : zHy X G q11_ask zcC 8 172 (some .int)) {r : Int32} {M' : cM} (hE : zEnd X G (some (.inl r)) (zfC M'))  (M : cM) (h : m11_ask M = some (r, M')) : zGo (X, q11_ask, G) 0 0 (0, [(0, .inr (.inr (some (11, 0))))], [], zfC M) := by
  unfold m11_ask at h
  refine zblq Hy.1 Hy.2.1 [(.aload 0, 1), (.getfield 1101, 3)] (S' := (4, [(0, .inr (.inr (some (11, 0))))], [.inr (.inr (some (10, 0)))], zfC M)) (b := true) (by decide +kernel) rfl rfl ?_
  obtain ⟨r1, M1, hc1, h⟩ := zbd_inv h
  refine zcallV Hy.1 (as := []) (st := []) (m10_read_met (zOK_G Hy.1) Hy.2.1 hc1) cw11_171 m10_read_in m10_read_se (by decide) (zhlv Hy.2.1 rfl) rfl (zroom Hy.2.2 ⟨by decide, by decide⟩) rfl (by decide +kernel) ⟨Nat.zero_le _, Nat.zero_le _⟩ ?_
  refine zblq Hy.1 Hy.2.1 [(.iconst (-1), 1)] (S' := (8, [(0, .inr (.inr (some (11, 0))))], [.inl (-1 : Int32), .inl r1], zfC M1)) (b := true) (by decide +kernel) rfl rfl ?_
  refine zic_eq Hy.1 (off := 6) (tgt := 14) (by decide +kernel) (by decide) (fun hb3 => ?_) (fun hb3 => ?_)
  · replace h := zite_t h hb3
    refine zblq Hy.1 Hy.2.1 [(.aload 0, 1), (.getfield 1102, 3), (.aload 0, 1), (.getfield 1101, 3), (.getfield 1004, 3)] (S' := (25, [(0, .inr (.inr (some (11, 0))))], [.inr (.inr (some (7, 0))), .inr (.inr (some (0, 0)))], zfC M1)) (b := true) (by decide +kernel) rfl rfl ?_
    obtain ⟨M2, hc2, h⟩ := zbv_inv h
    refine zcallV Hy.1 (as := [.inr (.inr (some (7, 0)))]) (st := []) (m0_pose_met (zOK_G Hy.1) Hy.2.1 hc2) cw11_177 m0_pose_in m0_pose_se (by decide) (zhlv Hy.2.1 rfl) rfl (zroom Hy.2.2 ⟨by decide, by decide⟩) rfl (by decide +kernel) ⟨Nat.zero_le _, Nat.zero_le _⟩ ?_
    refine zblq Hy.1 Hy.2.1 [(.aload 0, 1), (.getfield 1101, 3), (.iconst 0, 1), (.invokeinterface 10 1, 3), (.aload 0, 1), (.getfield 1102, 3), (.getfield 1, 3), (.multianewarray 7 1, 3)] (S' := (46, [(0, .inr (.inr (some (11, 0))))], [.inl (cg (cs M2 10 0 1 (0 : Int32)) 7 1 1)], zfC (cs M2 10 0 1 (0 : Int32)))) (b := true) (by decide +kernel) rfl rfl ?_
    cases h
    exact zret_i Hy.1 Hy.2.2 hE (by decide +kernel)
  · replace h := zite_f h hb3
    refine zblq Hy.1 Hy.2.1 [(.iconst (-4), 2)] (S' := (13, [(0, .inr (.inr (some (11, 0))))], [.inl (-4 : Int32)], zfC M1)) (b := true) (by decide +kernel) rfl rfl ?_
    cases h
    exact zret_i Hy.1 Hy.2.2 hE (by decide +kernel)
theorem m11_ask_met {l : Launch} {G : zG} (hG : zGok G) (hcn : zgcn G = zcC)  {M : cM} {r : Int32} {M' : cM} (h : m11_ask M = some (r, M')) : zMet l G yX11_ask cX11_ask 1 (some .int) 8 172 [.inr (.inr (some (11, 0)))] (zfC M) (some (.inl r)) (zfC M') :=
  zMet_of hG tbX11_ok rfl (by decide +kernel) (Nat.le_of_ble_eq_true rfl) (fun X _ Z hA hE => m11_ask_ok ⟨Z, hcn, hA⟩ hE M h)
abbrev q11_loud : ByteArray × Nat × String × zT := (cX11_loud, 6, RX11, tbX11)
def m11_loud (x1 : Int32) (x2 : Int32) (x3 : Int32) (M : cM) : Option (Int32 × cM) := zbd (m3_knows x1 M) (fun r1 M1 => (if r1 = 0 then some ((-2 : Int32), M1) else zbd (m11_outside x2 (0 : Int32) (23 : Int32) M1) (fun r2 M2 => (if r2 = 0 then zbd (m11_outside x3 (0 : Int32) (16 : Int32) M2) (fun r3 M3 => (if r3 = 0 then zbd (m3_of x1 M3) (fun r4 M4 => zgd (Nat.blt r4 10 && ((Nat.blt r4 10 && zin x2 24) && (Nat.blt r4 10 && ((Nat.blt r4 10 && zin x2 24) && true)))) (some (cg M4 312 r4 (nx x2), cs M4 312 r4 (nx x2) x3))) else some ((-3 : Int32), M3))) else some ((-3 : Int32), M2)))))
theorem m11_loud_ok {X : zX} {G : zG} (Hy : zHy X G q11_loud zcC 1 22 (some .int)) {r : Int32} {M' : cM} (hE : zEnd X G (some (.inl r)) (zfC M')) (x1 : Int32) (x2 : Int32) (x3 : Int32) (M : cM) (h : m11_loud x1 x2 x3 M = some (r, M')) : zGo (X, q11_loud, G) 0 0 (0, [(0, .inr (.inr (some (11, 0)))), (1, .inl x1), (2, .inl x2), (3, .inl x3)], [], zfC M) := by
  unfold m11_loud at h
  refine zblq Hy.1 Hy.2.1 [(.aload 0, 1), (.getfield 1100, 3), (.iload 1, 1)] (S' := (5, [(0, .inr (.inr (some (11, 0)))), (1, .inl x1), (2, .inl x2), (3, .inl x3)], [.inl x1, .inr (.inr (some (3, 0)))], zfC M)) (b := true) (by decide +kernel) rfl rfl ?_
  obtain ⟨r1, M1, hc1, h⟩ := zbd_inv h
  refine zcallV Hy.1 (as := [.inl x1]) (st := []) (m3_knows_met (zOK_G Hy.1) Hy.2.1 hc1) cw11_74 m3_knows_in m3_knows_se (by decide) (zhlv Hy.2.1 rfl) rfl (zroom Hy.2.2 ⟨by decide, by decide⟩) rfl (by decide +kernel) ⟨Nat.zero_le _, Nat.zero_le _⟩ ?_
  refine zif_ne Hy.1 (off := 6) (tgt := 14) (by decide +kernel) (by decide) (fun hb8 => ?_) (fun hb8 => ?_)
  · replace h := zite_f h hb8
    refine zblq Hy.1 Hy.2.1 [(.iload 2, 1), (.iconst 0, 1), (.iconst 23, 2)] (S' := (18, [(0, .inr (.inr (some (11, 0)))), (1, .inl x1), (2, .inl x2), (3, .inl x3)], [.inl (23 : Int32), .inl (0 : Int32), .inl x2], zfC M1)) (b := true) (by decide +kernel) rfl rfl ?_
    obtain ⟨r2, M2, hc2, h⟩ := zbd_inv h
    refine zcallS Hy.1 (as := [.inl x2, .inl (0 : Int32), .inl (23 : Int32)]) (st := []) (m11_outside_met (zOK_G Hy.1) Hy.2.1 hc2) cw11_66 m11_outside_in rfl (zroom Hy.2.2 ⟨by decide, by decide⟩) rfl (by decide +kernel) ⟨Nat.zero_le _, Nat.zero_le _⟩ ?_
    refine zif_ne Hy.1 (off := 13) (tgt := 34) (by decide +kernel) (by decide) (fun hb7 => ?_) (fun hb7 => ?_)
    · replace h := zite_f h hb7
      refine zblq Hy.1 Hy.2.1 [(.iconst (-3), 2)] (S' := (36, [(0, .inr (.inr (some (11, 0)))), (1, .inl x1), (2, .inl x2), (3, .inl x3)], [.inl (-3 : Int32)], zfC M2)) (b := true) (by decide +kernel) rfl rfl ?_
      cases h
      exact zret_i Hy.1 Hy.2.2 hE (by decide +kernel)
    · replace h := zite_t h hb7
      refine zblq Hy.1 Hy.2.1 [(.iload 3, 1), (.iconst 0, 1), (.iconst 16, 2)] (S' := (28, [(0, .inr (.inr (some (11, 0)))), (1, .inl x1), (2, .inl x2), (3, .inl x3)], [.inl (16 : Int32), .inl (0 : Int32), .inl x3], zfC M2)) (b := true) (by decide +kernel) rfl rfl ?_
      obtain ⟨r3, M3, hc3, h⟩ := zbd_inv h
      refine zcallS Hy.1 (as := [.inl x3, .inl (0 : Int32), .inl (16 : Int32)]) (st := []) (m11_outside_met (zOK_G Hy.1) Hy.2.1 hc3) cw11_66 m11_outside_in rfl (zroom Hy.2.2 ⟨by decide, by decide⟩) rfl (by decide +kernel) ⟨Nat.zero_le _, Nat.zero_le _⟩ ?_
      refine zif_eq Hy.1 (off := 6) (tgt := 37) (by decide +kernel) (by decide) (fun hb6 => ?_) (fun hb6 => ?_)
      · replace h := zite_t h hb6
        refine zblq Hy.1 Hy.2.1 [(.aload 0, 1), (.getfield 1100, 3), (.iload 1, 1)] (S' := (42, [(0, .inr (.inr (some (11, 0)))), (1, .inl x1), (2, .inl x2), (3, .inl x3)], [.inl x1, .inr (.inr (some (3, 0)))], zfC M3)) (b := true) (by decide +kernel) rfl rfl ?_
        obtain ⟨r4, M4, hc4, h⟩ := zbd_inv h
        refine zcallV Hy.1 (as := [.inl x1]) (st := []) (m3_of_met (zOK_G Hy.1) Hy.2.1 hc4) cw11_78 m3_of_in m3_of_se (by decide) (zhlv Hy.2.1 rfl) rfl (zroom Hy.2.2 ⟨by decide, by decide⟩) rfl (by decide +kernel) ⟨Nat.zero_le _, Nat.zero_le _⟩ ?_
        obtain ⟨hg5, h⟩ := zgd_inv h
        refine zblq Hy.1 Hy.2.1 [(.astore 4, 2), (.aload 4, 2), (.getfield 212, 3), (.iload 2, 1), (.iaload, 1), (.istore 5, 2), (.aload 4, 2), (.getfield 212, 3), (.iload 2, 1), (.iload 3, 1), (.iastore, 1), (.iload 5, 2)] (S' := (66, [(0, .inr (.inr (some (11, 0)))), (1, .inl x1), (2, .inl x2), (3, .inl x3), (4, .inr (.inr (some (2, r4)))), (5, .inl (cg M4 312 r4 (nx x2)))], [.inl (cg M4 312 r4 (nx x2))], zfC (cs M4 312 r4 (nx x2) x3))) (b := Nat.blt r4 10 && ((Nat.blt r4 10 && zin x2 24) && (Nat.blt r4 10 && ((Nat.blt r4 10 && zin x2 24) && true)))) (by decide +kernel) rfl hg5 ?_
        cases h
        exact zret_i Hy.1 Hy.2.2 hE (by decide +kernel)
      · replace h := zite_f h hb6
        refine zblq Hy.1 Hy.2.1 [(.iconst (-3), 2)] (S' := (36, [(0, .inr (.inr (some (11, 0)))), (1, .inl x1), (2, .inl x2), (3, .inl x3)], [.inl (-3 : Int32)], zfC M3)) (b := true) (by decide +kernel) rfl rfl ?_
        cases h
        exact zret_i Hy.1 Hy.2.2 hE (by decide +kernel)
  · replace h := zite_t h hb8
    refine zblq Hy.1 Hy.2.1 [(.iconst (-2), 2)] (S' := (13, [(0, .inr (.inr (some (11, 0)))), (1, .inl x1), (2, .inl x2), (3, .inl x3)], [.inl (-2 : Int32)], zfC M1)) (b := true) (by decide +kernel) rfl rfl ?_
    cases h
    exact zret_i Hy.1 Hy.2.2 hE (by decide +kernel)
theorem m11_loud_met {l : Launch} {G : zG} (hG : zGok G) (hcn : zgcn G = zcC) {x1 : Int32} {x2 : Int32} {x3 : Int32} {M : cM} {r : Int32} {M' : cM} (h : m11_loud x1 x2 x3 M = some (r, M')) : zMet l G yX11_loud cX11_loud 6 (some .int) 1 22 [.inr (.inr (some (11, 0))), .inl x1, .inl x2, .inl x3] (zfC M) (some (.inl r)) (zfC M') :=
  zMet_of hG tbX11_ok rfl (by decide +kernel) (Nat.le_of_ble_eq_true rfl) (fun X _ Z hA hE => m11_loud_ok ⟨Z, hcn, hA⟩ hE x1 x2 x3 M h)
abbrev q11_lies : ByteArray × Nat × String × zT := (cX11_lies, 5, RX11, tbX11)
def m11_lies (x1 : Int32) (x2 : Int32) (M : cM) : Option (Int32 × cM) := zbd (m3_knows x1 M) (fun r1 M1 => (if r1 = 0 then some ((-2 : Int32), M1) else zbd (m11_outside x2 (0 : Int32) (16 : Int32) M1) (fun r2 M2 => (if r2 = 0 then zbd (m3_of x1 M2) (fun r3 M3 => zgd (Nat.blt r3 10 && ((Nat.blt r3 10 && true) && true)) (some (cg M3 2 r3 10, cs M3 2 r3 10 x2))) else some ((-3 : Int32), M2)))))
theorem m11_lies_ok {X : zX} {G : zG} (Hy : zHy X G q11_lies zcC 1 22 (some .int)) {r : Int32} {M' : cM} (hE : zEnd X G (some (.inl r)) (zfC M')) (x1 : Int32) (x2 : Int32) (M : cM) (h : m11_lies x1 x2 M = some (r, M')) : zGo (X, q11_lies, G) 0 0 (0, [(0, .inr (.inr (some (11, 0)))), (1, .inl x1), (2, .inl x2)], [], zfC M) := by
  unfold m11_lies at h
  refine zblq Hy.1 Hy.2.1 [(.aload 0, 1), (.getfield 1100, 3), (.iload 1, 1)] (S' := (5, [(0, .inr (.inr (some (11, 0)))), (1, .inl x1), (2, .inl x2)], [.inl x1, .inr (.inr (some (3, 0)))], zfC M)) (b := true) (by decide +kernel) rfl rfl ?_
  obtain ⟨r1, M1, hc1, h⟩ := zbd_inv h
  refine zcallV Hy.1 (as := [.inl x1]) (st := []) (m3_knows_met (zOK_G Hy.1) Hy.2.1 hc1) cw11_74 m3_knows_in m3_knows_se (by decide) (zhlv Hy.2.1 rfl) rfl (zroom Hy.2.2 ⟨by decide, by decide⟩) rfl (by decide +kernel) ⟨Nat.zero_le _, Nat.zero_le _⟩ ?_
  refine zif_ne Hy.1 (off := 6) (tgt := 14) (by decide +kernel) (by decide) (fun hb6 => ?_) (fun hb6 => ?_)
  · replace h := zite_f h hb6
    refine zblq Hy.1 Hy.2.1 [(.iload 2, 1), (.iconst 0, 1), (.iconst 16, 2)] (S' := (18, [(0, .inr (.inr (some (11, 0)))), (1, .inl x1), (2, .inl x2)], [.inl (16 : Int32), .inl (0 : Int32), .inl x2], zfC M1)) (b := true) (by decide +kernel) rfl rfl ?_
    obtain ⟨r2, M2, hc2, h⟩ := zbd_inv h
    refine zcallS Hy.1 (as := [.inl x2, .inl (0 : Int32), .inl (16 : Int32)]) (st := []) (m11_outside_met (zOK_G Hy.1) Hy.2.1 hc2) cw11_66 m11_outside_in rfl (zroom Hy.2.2 ⟨by decide, by decide⟩) rfl (by decide +kernel) ⟨Nat.zero_le _, Nat.zero_le _⟩ ?_
    refine zif_eq Hy.1 (off := 6) (tgt := 27) (by decide +kernel) (by decide) (fun hb5 => ?_) (fun hb5 => ?_)
    · replace h := zite_t h hb5
      refine zblq Hy.1 Hy.2.1 [(.aload 0, 1), (.getfield 1100, 3), (.iload 1, 1)] (S' := (32, [(0, .inr (.inr (some (11, 0)))), (1, .inl x1), (2, .inl x2)], [.inl x1, .inr (.inr (some (3, 0)))], zfC M2)) (b := true) (by decide +kernel) rfl rfl ?_
      obtain ⟨r3, M3, hc3, h⟩ := zbd_inv h
      refine zcallV Hy.1 (as := [.inl x1]) (st := []) (m3_of_met (zOK_G Hy.1) Hy.2.1 hc3) cw11_78 m3_of_in m3_of_se (by decide) (zhlv Hy.2.1 rfl) rfl (zroom Hy.2.2 ⟨by decide, by decide⟩) rfl (by decide +kernel) ⟨Nat.zero_le _, Nat.zero_le _⟩ ?_
      obtain ⟨hg4, h⟩ := zgd_inv h
      refine zblq Hy.1 Hy.2.1 [(.astore 3, 1), (.aload 3, 1), (.multianewarray 2 10, 3), (.istore 4, 2), (.aload 3, 1), (.iload 2, 1), (.invokeinterface 2 10, 3), (.iload 4, 2)] (S' := (49, [(0, .inr (.inr (some (11, 0)))), (1, .inl x1), (2, .inl x2), (3, .inr (.inr (some (2, r3)))), (4, .inl (cg M3 2 r3 10))], [.inl (cg M3 2 r3 10)], zfC (cs M3 2 r3 10 x2))) (b := Nat.blt r3 10 && ((Nat.blt r3 10 && true) && true)) (by decide +kernel) rfl hg4 ?_
      cases h
      exact zret_i Hy.1 Hy.2.2 hE (by decide +kernel)
    · replace h := zite_f h hb5
      refine zblq Hy.1 Hy.2.1 [(.iconst (-3), 2)] (S' := (26, [(0, .inr (.inr (some (11, 0)))), (1, .inl x1), (2, .inl x2)], [.inl (-3 : Int32)], zfC M2)) (b := true) (by decide +kernel) rfl rfl ?_
      cases h
      exact zret_i Hy.1 Hy.2.2 hE (by decide +kernel)
  · replace h := zite_t h hb6
    refine zblq Hy.1 Hy.2.1 [(.iconst (-2), 2)] (S' := (13, [(0, .inr (.inr (some (11, 0)))), (1, .inl x1), (2, .inl x2)], [.inl (-2 : Int32)], zfC M1)) (b := true) (by decide +kernel) rfl rfl ?_
    cases h
    exact zret_i Hy.1 Hy.2.2 hE (by decide +kernel)
theorem m11_lies_met {l : Launch} {G : zG} (hG : zGok G) (hcn : zgcn G = zcC) {x1 : Int32} {x2 : Int32} {M : cM} {r : Int32} {M' : cM} (h : m11_lies x1 x2 M = some (r, M')) : zMet l G yX11_lies cX11_lies 5 (some .int) 1 22 [.inr (.inr (some (11, 0))), .inl x1, .inl x2] (zfC M) (some (.inl r)) (zfC M') :=
  zMet_of hG tbX11_ok rfl (by decide +kernel) (Nat.le_of_ble_eq_true rfl) (fun X _ Z hA hE => m11_lies_ok ⟨Z, hcn, hA⟩ hE x1 x2 M h)
abbrev q7_isAsked : ByteArray × Nat × String × zT := (cX7_isAsked, 1, RX7, tbX7)
def m7_isAsked (i0 : Nat) (M : cM) : Option (Int32 × cM) := zgd (Nat.blt i0 2 && true) ((if (cg M 7 i0 1) ≤ 0 then some ((0 : Int32), M) else some ((1 : Int32), M)))
theorem m7_isAsked_ok {X : zX} {G : zG} (Hy : zHy X G q7_isAsked zcC 0 0 (some .boolean)) {r : Int32} {M' : cM} (hE : zEnd X G (some (.inl r)) (zfC M')) (i0 : Nat) (M : cM) (h : m7_isAsked i0 M = some (r, M')) : zGo (X, q7_isAsked, G) 0 0 (0, [(0, .inr (.inr (some (7, i0))))], [], zfC M) := by
  unfold m7_isAsked at h
  obtain ⟨hg1, h⟩ := zgd_inv h
  refine zblq Hy.1 Hy.2.1 [(.aload 0, 1), (.multianewarray 7 1, 3)] (S' := (4, [(0, .inr (.inr (some (7, i0))))], [.inl (cg M 7 i0 1)], zfC M)) (b := Nat.blt i0 2 && true) (by decide +kernel) rfl hg1 ?_
  refine zif_le Hy.1 (off := 7) (tgt := 11) (by decide +kernel) (by decide) (fun hb2 => ?_) (fun hb2 => ?_)
  · replace h := zite_t h hb2
    refine zblq Hy.1 Hy.2.1 [(.iconst 0, 1)] (S' := (12, [(0, .inr (.inr (some (7, i0))))], [.inl (0 : Int32)], zfC M)) (b := true) (by decide +kernel) rfl rfl ?_
    cases h
    exact zret_z Hy.1 Hy.2.2 (by decide) hE (by decide +kernel)
  · replace h := zite_f h hb2
    refine zblq Hy.1 Hy.2.1 [(.iconst 1, 1), (.ldc 12, 3)] (S' := (12, [(0, .inr (.inr (some (7, i0))))], [.inl (1 : Int32)], zfC M)) (b := true) (by decide +kernel) rfl rfl ?_
    cases h
    exact zret_z Hy.1 Hy.2.2 (by decide) hE (by decide +kernel)
theorem m7_isAsked_met {l : Launch} {G : zG} (hG : zGok G) (hcn : zgcn G = zcC) {i0 : Nat} {M : cM} {r : Int32} {M' : cM} (h : m7_isAsked i0 M = some (r, M')) : zMet l G yX7_isAsked cX7_isAsked 1 (some .boolean) 0 0 [.inr (.inr (some (7, i0)))] (zfC M) (some (.inl r)) (zfC M') :=
  zMet_of hG tbX7_ok rfl (by decide +kernel) (Nat.le_of_ble_eq_true rfl) (fun X _ Z hA hE => m7_isAsked_ok ⟨Z, hcn, hA⟩ hE i0 M h)
abbrev q7_commonPart : ByteArray × Nat × String × zT := (cX7_commonPart, 6, RX7, tbX7)
def m7_commonPart_34 (x2 : Int32) (M : cM) : Option (Int32 × cM) := (if x2 ≤ 0 then some ((1 : Int32), M) else some (x2, M))
theorem m7_commonPart_34_ok {X : zX} {G : zG} (Hy : zHy X G q7_commonPart zcC 0 0 (some .int)) {r : Int32} {M' : cM} (hE : zEnd X G (some (.inl r)) (zfC M')) (x2 : Int32) (M : cM) (h : m7_commonPart_34 x2 M = some (r, M')) : zGo (X, q7_commonPart, G) 0 0 (34, [(2, .inl x2)], [], zfC M) := by
  unfold m7_commonPart_34 at h
  refine zblq Hy.1 Hy.2.1 [(.iload 2, 1)] (S' := (35, [(2, .inl x2)], [.inl x2], zfC M)) (b := true) (by decide +kernel) rfl rfl ?_
  refine zif_le Hy.1 (off := 7) (tgt := 42) (by decide +kernel) (by decide) (fun hb1 => ?_) (fun hb1 => ?_)
  · replace h := zite_t h hb1
    refine zblq Hy.1 Hy.2.1 [(.iconst 1, 1)] (S' := (43, [(2, .inl x2)], [.inl (1 : Int32)], zfC M)) (b := true) (by decide +kernel) rfl rfl ?_
    cases h
    exact zret_i Hy.1 Hy.2.2 hE (by decide +kernel)
  · replace h := zite_f h hb1
    refine zblq Hy.1 Hy.2.1 [(.iload 2, 1), (.ldc 43, 3)] (S' := (43, [(2, .inl x2)], [.inl x2], zfC M)) (b := true) (by decide +kernel) rfl rfl ?_
    cases h
    exact zret_i Hy.1 Hy.2.2 hE (by decide +kernel)
def m7_commonPart_7 : Nat → Int32 → Int32 → Int32 → cM → Option (Int32 × cM)
  | 0, _, _, _, _ => none
  | n + 1, x2, x3, x4, M => (if (64 : Int32) ≤ x4 then m7_commonPart_34 x2 M else (if x3 = 0 then m7_commonPart_34 x2 M else zgd (znz x3 && true) ((m7_commonPart_7 n) x3 (zrem x2 x3) (x4 + (1 : Int32)) M)))
theorem m7_commonPart_7_ok {X : zX} {G : zG} (Hy : zHy X G q7_commonPart zcC 0 0 (some .int)) {r : Int32} {M' : cM} (hE : zEnd X G (some (.inl r)) (zfC M')) : ∀ (n : Nat) (x2 : Int32) (x3 : Int32) (x4 : Int32) (M : cM), m7_commonPart_7 n x2 x3 x4 M = some (r, M') → zGo (X, q7_commonPart, G) 0 0 (7, [(2, .inl x2), (3, .inl x3), (4, .inl x4)], [], zfC M) := by
  intro n
  induction n with
  | zero => intro x2 x3 x4 M h; cases h
  | succ n ih =>
    intro x2 x3 x4 M h
    unfold m7_commonPart_7 at h
    refine zblq Hy.1 Hy.2.1 [(.iload 4, 2), (.iconst 64, 2)] (S' := (11, [(2, .inl x2), (3, .inl x3), (4, .inl x4)], [.inl (64 : Int32), .inl x4], zfC M)) (b := true) (by decide +kernel) rfl rfl ?_
    refine zic_ge Hy.1 (off := 23) (tgt := 34) (by decide +kernel) (by decide) (fun hb4 => ?_) (fun hb4 => ?_)
    · replace h := zite_t h hb4
      refine zGo_keep [2] rfl ?_
      exact m7_commonPart_34_ok Hy hE x2 M h
    · replace h := zite_f h hb4
      refine zblq Hy.1 Hy.2.1 [(.iload 3, 1)] (S' := (15, [(2, .inl x2), (3, .inl x3), (4, .inl x4)], [.inl x3], zfC M)) (b := true) (by decide +kernel) rfl rfl ?_
      refine zif_eq Hy.1 (off := 19) (tgt := 34) (by decide +kernel) (by decide) (fun hb3 => ?_) (fun hb3 => ?_)
      · replace h := zite_t h hb3
        refine zGo_keep [2] rfl ?_
        exact m7_commonPart_34_ok Hy hE x2 M h
      · replace h := zite_f h hb3
        obtain ⟨hg2, h⟩ := zgd_inv h
        refine zblq Hy.1 Hy.2.1 [(.iload 2, 1), (.iload 3, 1), (.irem, 1), (.istore 5, 2), (.iload 3, 1), (.istore 2, 1), (.iload 5, 2), (.istore 3, 1), (.iinc 4 1, 3), (.ldc 7, 3)] (S' := (7, [(2, .inl x3), (3, .inl (zrem x2 x3)), (4, .inl (x4 + (1 : Int32))), (5, .inl (zrem x2 x3))], [], zfC M)) (b := znz x3 && true) (by decide +kernel) rfl hg2 ?_
        refine zGo_keep [2, 3, 4] rfl ?_
        exact ih x3 (zrem x2 x3) (x4 + (1 : Int32)) M h
def m7_commonPart (x0 : Int32) (x1 : Int32) (M : cM) : Option (Int32 × cM) := m7_commonPart_7 zfu x0 x1 (0 : Int32) M
theorem m7_commonPart_ok {X : zX} {G : zG} (Hy : zHy X G q7_commonPart zcC 0 0 (some .int)) {r : Int32} {M' : cM} (hE : zEnd X G (some (.inl r)) (zfC M')) (x0 : Int32) (x1 : Int32) (M : cM) (h : m7_commonPart x0 x1 M = some (r, M')) : zGo (X, q7_commonPart, G) 0 0 (0, [(0, .inl x0), (1, .inl x1)], [], zfC M) := by
  unfold m7_commonPart at h
  refine zblq Hy.1 Hy.2.1 [(.iload 0, 1), (.istore 2, 1), (.iload 1, 1), (.istore 3, 1), (.iconst 0, 1), (.istore 4, 2)] (S' := (7, [(0, .inl x0), (1, .inl x1), (2, .inl x0), (3, .inl x1), (4, .inl (0 : Int32))], [], zfC M)) (b := true) (by decide +kernel) rfl rfl ?_
  refine zGo_keep [2, 3, 4] rfl ?_
  exact m7_commonPart_7_ok Hy hE zfu x0 x1 (0 : Int32) M h
theorem m7_commonPart_met {l : Launch} {G : zG} (hG : zGok G) (hcn : zgcn G = zcC) {x0 : Int32} {x1 : Int32} {M : cM} {r : Int32} {M' : cM} (h : m7_commonPart x0 x1 M = some (r, M')) : zMet l G yX7_commonPart cX7_commonPart 6 (some .int) 0 0 [.inl x0, .inl x1] (zfC M) (some (.inl r)) (zfC M') :=
  zMet_of hG tbX7_ok rfl (by decide +kernel) (Nat.le_of_ble_eq_true rfl) (fun X _ Z hA hE => m7_commonPart_ok ⟨Z, hcn, hA⟩ hE x0 x1 M h)
abbrev q7_answerAbove : ByteArray × Nat × String × zT := (cX7_answerAbove, 2, RX7, tbX7)
def m7_answerAbove (i0 : Nat) (i1 : Nat) (M : cM) : Option (Int32 × cM) := zgd (Nat.blt i0 2 && true) ((if (cg M 7 i0 0) = (3 : Int32) then zgd (Nat.blt i1 51 && true) (some (cg M 9 i1 2, M)) else zgd (Nat.blt i1 51) (zbd (m9_isEmpty i1 M) (fun r2 M2 => (if r2 = 0 then zgd (Nat.blt i0 2 && true) ((if (cg M2 7 i0 0) = 0 then zgd (Nat.blt i1 51 && true) (some (cg M2 9 i1 0, M2)) else zgd (Nat.blt i0 2 && true) ((if (cg M2 7 i0 0) = (1 : Int32) then zgd (Nat.blt i1 51 && true) (some (cg M2 9 i1 1, M2)) else zgd (Nat.blt i1 51 && (Nat.blt i1 51 && (Nat.blt i1 51 && true))) (zbd (m7_commonPart (cg M2 9 i1 3) (cg M2 9 i1 2) M2) (fun r7 M7 => zgd (znz r7 && true) (some ((cg M2 9 i1 3) / r7, M7)))))))) else some ((-1 : Int32), M2))))))
theorem m7_answerAbove_ok {X : zX} {G : zG} (Hy : zHy X G q7_answerAbove zcC 1 25 (some .int)) {r : Int32} {M' : cM} (hE : zEnd X G (some (.inl r)) (zfC M')) (i0 : Nat) (i1 : Nat) (M : cM) (h : m7_answerAbove i0 i1 M = some (r, M')) : zGo (X, q7_answerAbove, G) 0 0 (0, [(0, .inr (.inr (some (7, i0)))), (1, .inr (.inr (some (9, i1))))], [], zfC M) := by
  unfold m7_answerAbove at h
  obtain ⟨hg1, h⟩ := zgd_inv h
  refine zblq Hy.1 Hy.2.1 [(.aload 0, 1), (.multianewarray 7 0, 3), (.iconst 3, 1)] (S' := (5, [(0, .inr (.inr (some (7, i0)))), (1, .inr (.inr (some (9, i1))))], [.inl (3 : Int32), .inl (cg M 7 i0 0)], zfC M)) (b := Nat.blt i0 2 && true) (by decide +kernel) rfl hg1 ?_
  refine zic_ne Hy.1 (off := 8) (tgt := 13) (by decide +kernel) (by decide) (fun hb15 => ?_) (fun hb15 => ?_)
  · replace h := zite_f h hb15
    refine zblq Hy.1 Hy.2.1 [(.aload 1, 1)] (S' := (14, [(0, .inr (.inr (some (7, i0)))), (1, .inr (.inr (some (9, i1))))], [.inr (.inr (some (9, i1)))], zfC M)) (b := true) (by decide +kernel) rfl rfl ?_
    obtain ⟨hg3, h⟩ := zgd_inv h
    obtain ⟨r2, M2, hc2, h⟩ := zbd_inv h
    refine zcallV Hy.1 (as := []) (st := []) (m9_isEmpty_met (zOK_G Hy.1) Hy.2.1 hc2) cw7_41 m9_isEmpty_in m9_isEmpty_se (by decide) (zhlv Hy.2.1 hg3) rfl (zroom Hy.2.2 ⟨by decide, by decide⟩) rfl (by decide +kernel) ⟨Nat.zero_le _, Nat.zero_le _⟩ ?_
    refine zif_eq Hy.1 (off := 5) (tgt := 22) (by decide +kernel) (by decide) (fun hb13 => ?_) (fun hb13 => ?_)
    · replace h := zite_t h hb13
      obtain ⟨hg4, h⟩ := zgd_inv h
      refine zblq Hy.1 Hy.2.1 [(.aload 0, 1), (.multianewarray 7 0, 3)] (S' := (26, [(0, .inr (.inr (some (7, i0)))), (1, .inr (.inr (some (9, i1))))], [.inl (cg M2 7 i0 0)], zfC M2)) (b := Nat.blt i0 2 && true) (by decide +kernel) rfl hg4 ?_
      refine zif_ne Hy.1 (off := 8) (tgt := 34) (by decide +kernel) (by decide) (fun hb12 => ?_) (fun hb12 => ?_)
      · replace h := zite_f h hb12
        obtain ⟨hg5, h⟩ := zgd_inv h
        refine zblq Hy.1 Hy.2.1 [(.aload 0, 1), (.multianewarray 7 0, 3), (.iconst 1, 1)] (S' := (39, [(0, .inr (.inr (some (7, i0)))), (1, .inr (.inr (some (9, i1))))], [.inl (1 : Int32), .inl (cg M2 7 i0 0)], zfC M2)) (b := Nat.blt i0 2 && true) (by decide +kernel) rfl hg5 ?_
        refine zic_ne Hy.1 (off := 8) (tgt := 47) (by decide +kernel) (by decide) (fun hb10 => ?_) (fun hb10 => ?_)
        · replace h := zite_f h hb10
          obtain ⟨hg6, h⟩ := zgd_inv h
          refine zblq Hy.1 Hy.2.1 [(.aload 1, 1), (.multianewarray 9 3, 3), (.aload 1, 1), (.multianewarray 9 3, 3), (.aload 1, 1), (.multianewarray 9 2, 3)] (S' := (59, [(0, .inr (.inr (some (7, i0)))), (1, .inr (.inr (some (9, i1))))], [.inl (cg M2 9 i1 2), .inl (cg M2 9 i1 3), .inl (cg M2 9 i1 3)], zfC M2)) (b := Nat.blt i1 51 && (Nat.blt i1 51 && (Nat.blt i1 51 && true))) (by decide +kernel) rfl hg6 ?_
          obtain ⟨r7, M7, hc7, h⟩ := zbd_inv h
          refine zcallS Hy.1 (as := [.inl (cg M2 9 i1 3), .inl (cg M2 9 i1 2)]) (st := [.inl (cg M2 9 i1 3)]) (m7_commonPart_met (zOK_G Hy.1) Hy.2.1 hc7) cw7_53 m7_commonPart_in rfl (zroom Hy.2.2 ⟨by decide, by decide⟩) rfl (by decide +kernel) ⟨Nat.zero_le _, Nat.zero_le _⟩ ?_
          obtain ⟨hg8, h⟩ := zgd_inv h
          refine zblq Hy.1 Hy.2.1 [(.idiv, 1)] (S' := (63, [(0, .inr (.inr (some (7, i0)))), (1, .inr (.inr (some (9, i1))))], [.inl ((cg M2 9 i1 3) / r7)], zfC M7)) (b := znz r7 && true) (by decide +kernel) rfl hg8 ?_
          cases h
          exact zret_i Hy.1 Hy.2.2 hE (by decide +kernel)
        · replace h := zite_t h hb10
          obtain ⟨hg9, h⟩ := zgd_inv h
          refine zblq Hy.1 Hy.2.1 [(.aload 1, 1), (.multianewarray 9 1, 3)] (S' := (46, [(0, .inr (.inr (some (7, i0)))), (1, .inr (.inr (some (9, i1))))], [.inl (cg M2 9 i1 1)], zfC M2)) (b := Nat.blt i1 51 && true) (by decide +kernel) rfl hg9 ?_
          cases h
          exact zret_i Hy.1 Hy.2.2 hE (by decide +kernel)
      · replace h := zite_t h hb12
        obtain ⟨hg11, h⟩ := zgd_inv h
        refine zblq Hy.1 Hy.2.1 [(.aload 1, 1), (.multianewarray 9 0, 3)] (S' := (33, [(0, .inr (.inr (some (7, i0)))), (1, .inr (.inr (some (9, i1))))], [.inl (cg M2 9 i1 0)], zfC M2)) (b := Nat.blt i1 51 && true) (by decide +kernel) rfl hg11 ?_
        cases h
        exact zret_i Hy.1 Hy.2.2 hE (by decide +kernel)
    · replace h := zite_f h hb13
      refine zblq Hy.1 Hy.2.1 [(.iconst (-1), 1)] (S' := (21, [(0, .inr (.inr (some (7, i0)))), (1, .inr (.inr (some (9, i1))))], [.inl (-1 : Int32)], zfC M2)) (b := true) (by decide +kernel) rfl rfl ?_
      cases h
      exact zret_i Hy.1 Hy.2.2 hE (by decide +kernel)
  · replace h := zite_t h hb15
    obtain ⟨hg14, h⟩ := zgd_inv h
    refine zblq Hy.1 Hy.2.1 [(.aload 1, 1), (.multianewarray 9 2, 3)] (S' := (12, [(0, .inr (.inr (some (7, i0)))), (1, .inr (.inr (some (9, i1))))], [.inl (cg M 9 i1 2)], zfC M)) (b := Nat.blt i1 51 && true) (by decide +kernel) rfl hg14 ?_
    cases h
    exact zret_i Hy.1 Hy.2.2 hE (by decide +kernel)
theorem m7_answerAbove_met {l : Launch} {G : zG} (hG : zGok G) (hcn : zgcn G = zcC) {i0 : Nat} {i1 : Nat} {M : cM} {r : Int32} {M' : cM} (h : m7_answerAbove i0 i1 M = some (r, M')) : zMet l G yX7_answerAbove cX7_answerAbove 2 (some .int) 1 25 [.inr (.inr (some (7, i0))), .inr (.inr (some (9, i1)))] (zfC M) (some (.inl r)) (zfC M') :=
  zMet_of hG tbX7_ok rfl (by decide +kernel) (Nat.le_of_ble_eq_true rfl) (fun X _ Z hA hE => m7_answerAbove_ok ⟨Z, hcn, hA⟩ hE i0 i1 M h)
abbrev q7_answerBelow : ByteArray × Nat × String × zT := (cX7_answerBelow, 2, RX7, tbX7)
def m7_answerBelow (i0 : Nat) (i1 : Nat) (M : cM) : Option (Int32 × cM) := zgd (Nat.blt i0 2 && true) ((if (cg M 7 i0 0) = (3 : Int32) then some ((1 : Int32), M) else zgd (Nat.blt i1 51) (zbd (m9_isEmpty i1 M) (fun r2 M2 => (if r2 = 0 then zgd (Nat.blt i0 2 && true) ((if (cg M2 7 i0 0) = (2 : Int32) then zgd (Nat.blt i1 51 && (Nat.blt i1 51 && (Nat.blt i1 51 && true))) (zbd (m7_commonPart (cg M2 9 i1 3) (cg M2 9 i1 2) M2) (fun r6 M6 => zgd (znz r6 && true) (some ((cg M2 9 i1 2) / r6, M6)))) else some ((1 : Int32), M2))) else some ((-1 : Int32), M2))))))
theorem m7_answerBelow_ok {X : zX} {G : zG} (Hy : zHy X G q7_answerBelow zcC 1 25 (some .int)) {r : Int32} {M' : cM} (hE : zEnd X G (some (.inl r)) (zfC M')) (i0 : Nat) (i1 : Nat) (M : cM) (h : m7_answerBelow i0 i1 M = some (r, M')) : zGo (X, q7_answerBelow, G) 0 0 (0, [(0, .inr (.inr (some (7, i0)))), (1, .inr (.inr (some (9, i1))))], [], zfC M) := by
  unfold m7_answerBelow at h
  obtain ⟨hg1, h⟩ := zgd_inv h
  refine zblq Hy.1 Hy.2.1 [(.aload 0, 1), (.multianewarray 7 0, 3), (.iconst 3, 1)] (S' := (5, [(0, .inr (.inr (some (7, i0)))), (1, .inr (.inr (some (9, i1))))], [.inl (3 : Int32), .inl (cg M 7 i0 0)], zfC M)) (b := Nat.blt i0 2 && true) (by decide +kernel) rfl hg1 ?_
  refine zic_ne Hy.1 (off := 5) (tgt := 10) (by decide +kernel) (by decide) (fun hb10 => ?_) (fun hb10 => ?_)
  · replace h := zite_f h hb10
    refine zblq Hy.1 Hy.2.1 [(.aload 1, 1)] (S' := (11, [(0, .inr (.inr (some (7, i0)))), (1, .inr (.inr (some (9, i1))))], [.inr (.inr (some (9, i1)))], zfC M)) (b := true) (by decide +kernel) rfl rfl ?_
    obtain ⟨hg3, h⟩ := zgd_inv h
    obtain ⟨r2, M2, hc2, h⟩ := zbd_inv h
    refine zcallV Hy.1 (as := []) (st := []) (m9_isEmpty_met (zOK_G Hy.1) Hy.2.1 hc2) cw7_41 m9_isEmpty_in m9_isEmpty_se (by decide) (zhlv Hy.2.1 hg3) rfl (zroom Hy.2.2 ⟨by decide, by decide⟩) rfl (by decide +kernel) ⟨Nat.zero_le _, Nat.zero_le _⟩ ?_
    refine zif_eq Hy.1 (off := 5) (tgt := 19) (by decide +kernel) (by decide) (fun hb9 => ?_) (fun hb9 => ?_)
    · replace h := zite_t h hb9
      obtain ⟨hg4, h⟩ := zgd_inv h
      refine zblq Hy.1 Hy.2.1 [(.aload 0, 1), (.multianewarray 7 0, 3), (.iconst 2, 1)] (S' := (24, [(0, .inr (.inr (some (7, i0)))), (1, .inr (.inr (some (9, i1))))], [.inl (2 : Int32), .inl (cg M2 7 i0 0)], zfC M2)) (b := Nat.blt i0 2 && true) (by decide +kernel) rfl hg4 ?_
      refine zic_eq Hy.1 (off := 5) (tgt := 29) (by decide +kernel) (by decide) (fun hb8 => ?_) (fun hb8 => ?_)
      · replace h := zite_t h hb8
        obtain ⟨hg5, h⟩ := zgd_inv h
        refine zblq Hy.1 Hy.2.1 [(.aload 1, 1), (.multianewarray 9 2, 3), (.aload 1, 1), (.multianewarray 9 3, 3), (.aload 1, 1), (.multianewarray 9 2, 3)] (S' := (41, [(0, .inr (.inr (some (7, i0)))), (1, .inr (.inr (some (9, i1))))], [.inl (cg M2 9 i1 2), .inl (cg M2 9 i1 3), .inl (cg M2 9 i1 2)], zfC M2)) (b := Nat.blt i1 51 && (Nat.blt i1 51 && (Nat.blt i1 51 && true))) (by decide +kernel) rfl hg5 ?_
        obtain ⟨r6, M6, hc6, h⟩ := zbd_inv h
        refine zcallS Hy.1 (as := [.inl (cg M2 9 i1 3), .inl (cg M2 9 i1 2)]) (st := [.inl (cg M2 9 i1 2)]) (m7_commonPart_met (zOK_G Hy.1) Hy.2.1 hc6) cw7_53 m7_commonPart_in rfl (zroom Hy.2.2 ⟨by decide, by decide⟩) rfl (by decide +kernel) ⟨Nat.zero_le _, Nat.zero_le _⟩ ?_
        obtain ⟨hg7, h⟩ := zgd_inv h
        refine zblq Hy.1 Hy.2.1 [(.idiv, 1)] (S' := (45, [(0, .inr (.inr (some (7, i0)))), (1, .inr (.inr (some (9, i1))))], [.inl ((cg M2 9 i1 2) / r6)], zfC M6)) (b := znz r6 && true) (by decide +kernel) rfl hg7 ?_
        cases h
        exact zret_i Hy.1 Hy.2.2 hE (by decide +kernel)
      · replace h := zite_f h hb8
        refine zblq Hy.1 Hy.2.1 [(.iconst 1, 1)] (S' := (28, [(0, .inr (.inr (some (7, i0)))), (1, .inr (.inr (some (9, i1))))], [.inl (1 : Int32)], zfC M2)) (b := true) (by decide +kernel) rfl rfl ?_
        cases h
        exact zret_i Hy.1 Hy.2.2 hE (by decide +kernel)
    · replace h := zite_f h hb9
      refine zblq Hy.1 Hy.2.1 [(.iconst (-1), 1)] (S' := (18, [(0, .inr (.inr (some (7, i0)))), (1, .inr (.inr (some (9, i1))))], [.inl (-1 : Int32)], zfC M2)) (b := true) (by decide +kernel) rfl rfl ?_
      cases h
      exact zret_i Hy.1 Hy.2.2 hE (by decide +kernel)
  · replace h := zite_t h hb10
    refine zblq Hy.1 Hy.2.1 [(.iconst 1, 1)] (S' := (9, [(0, .inr (.inr (some (7, i0)))), (1, .inr (.inr (some (9, i1))))], [.inl (1 : Int32)], zfC M)) (b := true) (by decide +kernel) rfl rfl ?_
    cases h
    exact zret_i Hy.1 Hy.2.2 hE (by decide +kernel)
theorem m7_answerBelow_met {l : Launch} {G : zG} (hG : zGok G) (hcn : zgcn G = zcC) {i0 : Nat} {i1 : Nat} {M : cM} {r : Int32} {M' : cM} (h : m7_answerBelow i0 i1 M = some (r, M')) : zMet l G yX7_answerBelow cX7_answerBelow 2 (some .int) 1 25 [.inr (.inr (some (7, i0))), .inr (.inr (some (9, i1)))] (zfC M) (some (.inl r)) (zfC M') :=
  zMet_of hG tbX7_ok rfl (by decide +kernel) (Nat.le_of_ble_eq_true rfl) (fun X _ Z hA hE => m7_answerBelow_ok ⟨Z, hcn, hA⟩ hE i0 i1 M h)
abbrev q11_result : ByteArray × Nat × String × zT := (cX11_result, 3, RX11, tbX11)
def m11_result (x1 : Int32) (M : cM) : Option (Int32 × cM) := zbd (m11_outside x1 (0 : Int32) (6 : Int32) M) (fun r1 M1 => (if r1 = 0 then zbd (m7_isAsked 1 M1) (fun r2 M2 => (if r2 = 0 then some ((-4 : Int32), M2) else (if x1 = 0 then zbd (m9_isEmpty 50 M2) (fun r4 M4 => (if r4 = 0 then some (cg M4 9 50 0, M4) else some ((-1 : Int32), M4))) else (if x1 = 1 then zbd (m9_isEmpty 50 M2) (fun r6 M6 => (if r6 = 0 then some (cg M6 9 50 1, M6) else some ((-1 : Int32), M6))) else (if x1 = 2 then some (cg M2 9 50 2, M2) else (if x1 = 3 then some (cg M2 9 50 3, M2) else (if x1 = 4 then some (cg M2 9 50 4, M2) else (if x1 = 5 then zbd (m7_answerAbove 1 50 M2) (fun r8 M8 => some (r8, M8)) else (zbd (m7_answerBelow 1 50 M2) (fun r9 M9 => some (r9, M9))))))))))) else some ((-3 : Int32), M1)))
theorem m11_result_ok {X : zX} {G : zG} (Hy : zHy X G q11_result zcC 2 46 (some .int)) {r : Int32} {M' : cM} (hE : zEnd X G (some (.inl r)) (zfC M')) (x1 : Int32) (M : cM) (h : m11_result x1 M = some (r, M')) : zGo (X, q11_result, G) 0 0 (0, [(0, .inr (.inr (some (11, 0)))), (1, .inl x1)], [], zfC M) := by
  unfold m11_result at h
  refine zblq Hy.1 Hy.2.1 [(.iload 1, 1), (.iconst 0, 1), (.iconst 6, 2)] (S' := (4, [(0, .inr (.inr (some (11, 0)))), (1, .inl x1)], [.inl (6 : Int32), .inl (0 : Int32), .inl x1], zfC M)) (b := true) (by decide +kernel) rfl rfl ?_
  obtain ⟨r1, M1, hc1, h⟩ := zbd_inv h
  refine zcallS Hy.1 (as := [.inl x1, .inl (0 : Int32), .inl (6 : Int32)]) (st := []) (m11_outside_met (zOK_G Hy.1) Hy.2.1 hc1) cw11_66 m11_outside_in rfl (zroom Hy.2.2 ⟨by decide, by decide⟩) rfl (by decide +kernel) ⟨Nat.zero_le _, Nat.zero_le _⟩ ?_
  refine zif_eq Hy.1 (off := 6) (tgt := 13) (by decide +kernel) (by decide) (fun hb11 => ?_) (fun hb11 => ?_)
  · replace h := zite_t h hb11
    refine zblq Hy.1 Hy.2.1 [(.aload 0, 1), (.getfield 1102, 3), (.getfield 1, 3)] (S' := (20, [(0, .inr (.inr (some (11, 0)))), (1, .inl x1)], [.inr (.inr (some (7, 1)))], zfC M1)) (b := true) (by decide +kernel) rfl rfl ?_
    obtain ⟨r2, M2, hc2, h⟩ := zbd_inv h
    refine zcallV Hy.1 (as := []) (st := []) (m7_isAsked_met (zOK_G Hy.1) Hy.2.1 hc2) cw11_193 m7_isAsked_in m7_isAsked_se (by decide) (zhlv Hy.2.1 rfl) rfl (zroom Hy.2.2 ⟨by decide, by decide⟩) rfl (by decide +kernel) ⟨Nat.zero_le _, Nat.zero_le _⟩ ?_
    refine zif_ne Hy.1 (off := 6) (tgt := 29) (by decide +kernel) (by decide) (fun hb10 => ?_) (fun hb10 => ?_)
    · replace h := zite_f h hb10
      refine zblq Hy.1 Hy.2.1 [(.aload 0, 1), (.getfield 1102, 3), (.getfield 2, 3), (.astore 2, 1), (.iload 1, 1)] (S' := (38, [(0, .inr (.inr (some (11, 0)))), (1, .inl x1), (2, .inr (.inr (some (9, 50))))], [.inl x1], zfC M2)) (b := true) (by decide +kernel) rfl rfl ?_
      have hd3 : decode cX11_result 38 = .ok (.tableswitch 97 0 5 #[38, 54, 70, 75, 80, 85], 38) := by decide +kernel
      by_cases hs3_0 : x1 = (0 : Int32)
      · replace h := zite_t h hs3_0
        refine zsw_in Hy.1 (v := 0) (tgt := 76) (off := 38) hs3_0 hd3 (by decide +kernel) (by decide) ?_
        refine zblq Hy.1 Hy.2.1 [(.aload 2, 1)] (S' := (77, [(0, .inr (.inr (some (11, 0)))), (1, .inl x1), (2, .inr (.inr (some (9, 50))))], [.inr (.inr (some (9, 50)))], zfC M2)) (b := true) (by decide +kernel) rfl rfl ?_
        obtain ⟨r4, M4, hc4, h⟩ := zbd_inv h
        refine zcallV Hy.1 (as := []) (st := []) (m9_isEmpty_met (zOK_G Hy.1) Hy.2.1 hc4) cw11_200 m9_isEmpty_in m9_isEmpty_se (by decide) (zhlv Hy.2.1 rfl) rfl (zroom Hy.2.2 ⟨by decide, by decide⟩) rfl (by decide +kernel) ⟨Nat.zero_le _, Nat.zero_le _⟩ ?_
        refine zif_eq Hy.1 (off := 7) (tgt := 87) (by decide +kernel) (by decide) (fun hb5 => ?_) (fun hb5 => ?_)
        · replace h := zite_t h hb5
          refine zblq Hy.1 Hy.2.1 [(.aload 2, 1), (.multianewarray 9 0, 3)] (S' := (91, [(0, .inr (.inr (some (11, 0)))), (1, .inl x1), (2, .inr (.inr (some (9, 50))))], [.inl (cg M4 9 50 0)], zfC M4)) (b := true) (by decide +kernel) rfl rfl ?_
          cases h
          exact zret_i Hy.1 Hy.2.2 hE (by decide +kernel)
        · replace h := zite_f h hb5
          refine zblq Hy.1 Hy.2.1 [(.iconst (-1), 1), (.ldc 91, 3)] (S' := (91, [(0, .inr (.inr (some (11, 0)))), (1, .inl x1), (2, .inr (.inr (some (9, 50))))], [.inl (-1 : Int32)], zfC M4)) (b := true) (by decide +kernel) rfl rfl ?_
          cases h
          exact zret_i Hy.1 Hy.2.2 hE (by decide +kernel)
      replace h := zite_f h hs3_0
      by_cases hs3_1 : x1 = (1 : Int32)
      · replace h := zite_t h hs3_1
        refine zsw_in Hy.1 (v := 1) (tgt := 92) (off := 54) hs3_1 hd3 (by decide +kernel) (by decide) ?_
        refine zblq Hy.1 Hy.2.1 [(.aload 2, 1)] (S' := (93, [(0, .inr (.inr (some (11, 0)))), (1, .inl x1), (2, .inr (.inr (some (9, 50))))], [.inr (.inr (some (9, 50)))], zfC M2)) (b := true) (by decide +kernel) rfl rfl ?_
        obtain ⟨r6, M6, hc6, h⟩ := zbd_inv h
        refine zcallV Hy.1 (as := []) (st := []) (m9_isEmpty_met (zOK_G Hy.1) Hy.2.1 hc6) cw11_200 m9_isEmpty_in m9_isEmpty_se (by decide) (zhlv Hy.2.1 rfl) rfl (zroom Hy.2.2 ⟨by decide, by decide⟩) rfl (by decide +kernel) ⟨Nat.zero_le _, Nat.zero_le _⟩ ?_
        refine zif_eq Hy.1 (off := 7) (tgt := 103) (by decide +kernel) (by decide) (fun hb7 => ?_) (fun hb7 => ?_)
        · replace h := zite_t h hb7
          refine zblq Hy.1 Hy.2.1 [(.aload 2, 1), (.multianewarray 9 1, 3)] (S' := (107, [(0, .inr (.inr (some (11, 0)))), (1, .inl x1), (2, .inr (.inr (some (9, 50))))], [.inl (cg M6 9 50 1)], zfC M6)) (b := true) (by decide +kernel) rfl rfl ?_
          cases h
          exact zret_i Hy.1 Hy.2.2 hE (by decide +kernel)
        · replace h := zite_f h hb7
          refine zblq Hy.1 Hy.2.1 [(.iconst (-1), 1), (.ldc 107, 3)] (S' := (107, [(0, .inr (.inr (some (11, 0)))), (1, .inl x1), (2, .inr (.inr (some (9, 50))))], [.inl (-1 : Int32)], zfC M6)) (b := true) (by decide +kernel) rfl rfl ?_
          cases h
          exact zret_i Hy.1 Hy.2.2 hE (by decide +kernel)
      replace h := zite_f h hs3_1
      by_cases hs3_2 : x1 = (2 : Int32)
      · replace h := zite_t h hs3_2
        refine zsw_in Hy.1 (v := 2) (tgt := 108) (off := 70) hs3_2 hd3 (by decide +kernel) (by decide) ?_
        refine zblq Hy.1 Hy.2.1 [(.aload 2, 1), (.multianewarray 9 2, 3)] (S' := (112, [(0, .inr (.inr (some (11, 0)))), (1, .inl x1), (2, .inr (.inr (some (9, 50))))], [.inl (cg M2 9 50 2)], zfC M2)) (b := true) (by decide +kernel) rfl rfl ?_
        cases h
        exact zret_i Hy.1 Hy.2.2 hE (by decide +kernel)
      replace h := zite_f h hs3_2
      by_cases hs3_3 : x1 = (3 : Int32)
      · replace h := zite_t h hs3_3
        refine zsw_in Hy.1 (v := 3) (tgt := 113) (off := 75) hs3_3 hd3 (by decide +kernel) (by decide) ?_
        refine zblq Hy.1 Hy.2.1 [(.aload 2, 1), (.multianewarray 9 3, 3)] (S' := (117, [(0, .inr (.inr (some (11, 0)))), (1, .inl x1), (2, .inr (.inr (some (9, 50))))], [.inl (cg M2 9 50 3)], zfC M2)) (b := true) (by decide +kernel) rfl rfl ?_
        cases h
        exact zret_i Hy.1 Hy.2.2 hE (by decide +kernel)
      replace h := zite_f h hs3_3
      by_cases hs3_4 : x1 = (4 : Int32)
      · replace h := zite_t h hs3_4
        refine zsw_in Hy.1 (v := 4) (tgt := 118) (off := 80) hs3_4 hd3 (by decide +kernel) (by decide) ?_
        refine zblq Hy.1 Hy.2.1 [(.aload 2, 1), (.multianewarray 9 4, 3)] (S' := (122, [(0, .inr (.inr (some (11, 0)))), (1, .inl x1), (2, .inr (.inr (some (9, 50))))], [.inl (cg M2 9 50 4)], zfC M2)) (b := true) (by decide +kernel) rfl rfl ?_
        cases h
        exact zret_i Hy.1 Hy.2.2 hE (by decide +kernel)
      replace h := zite_f h hs3_4
      by_cases hs3_5 : x1 = (5 : Int32)
      · replace h := zite_t h hs3_5
        refine zsw_in Hy.1 (v := 5) (tgt := 123) (off := 85) hs3_5 hd3 (by decide +kernel) (by decide) ?_
        refine zblq Hy.1 Hy.2.1 [(.aload 0, 1), (.getfield 1102, 3), (.getfield 1, 3), (.aload 2, 1)] (S' := (131, [(0, .inr (.inr (some (11, 0)))), (1, .inl x1), (2, .inr (.inr (some (9, 50))))], [.inr (.inr (some (9, 50))), .inr (.inr (some (7, 1)))], zfC M2)) (b := true) (by decide +kernel) rfl rfl ?_
        obtain ⟨r8, M8, hc8, h⟩ := zbd_inv h
        refine zcallV Hy.1 (as := [.inr (.inr (some (9, 50)))]) (st := []) (m7_answerAbove_met (zOK_G Hy.1) Hy.2.1 hc8) cw11_220 m7_answerAbove_in m7_answerAbove_se (by decide) (zhlv Hy.2.1 rfl) rfl (zroom Hy.2.2 ⟨by decide, by decide⟩) rfl (by decide +kernel) ⟨Nat.zero_le _, Nat.zero_le _⟩ ?_
        cases h
        exact zret_i Hy.1 Hy.2.2 hE (by decide +kernel)
      replace h := zite_f h hs3_5
      refine zsw_out Hy.1 hd3 (zsw_far 6 (by decide) (fun j hj => match j, hj with | 0, _ => hs3_0 | 1, _ => hs3_1 | 2, _ => hs3_2 | 3, _ => hs3_3 | 4, _ => hs3_4 | 5, _ => hs3_5)) (by decide : (38 : Int) + 97 = (135 : Int)) ?_
      refine zblq Hy.1 Hy.2.1 [(.aload 0, 1), (.getfield 1102, 3), (.getfield 1, 3), (.aload 2, 1)] (S' := (143, [(0, .inr (.inr (some (11, 0)))), (1, .inl x1), (2, .inr (.inr (some (9, 50))))], [.inr (.inr (some (9, 50))), .inr (.inr (some (7, 1)))], zfC M2)) (b := true) (by decide +kernel) rfl rfl ?_
      obtain ⟨r9, M9, hc9, h⟩ := zbd_inv h
      refine zcallV Hy.1 (as := [.inr (.inr (some (9, 50)))]) (st := []) (m7_answerBelow_met (zOK_G Hy.1) Hy.2.1 hc9) cw11_224 m7_answerBelow_in m7_answerBelow_se (by decide) (zhlv Hy.2.1 rfl) rfl (zroom Hy.2.2 ⟨by decide, by decide⟩) rfl (by decide +kernel) ⟨Nat.zero_le _, Nat.zero_le _⟩ ?_
      cases h
      exact zret_i Hy.1 Hy.2.2 hE (by decide +kernel)
    · replace h := zite_t h hb10
      refine zblq Hy.1 Hy.2.1 [(.iconst (-4), 2)] (S' := (28, [(0, .inr (.inr (some (11, 0)))), (1, .inl x1)], [.inl (-4 : Int32)], zfC M2)) (b := true) (by decide +kernel) rfl rfl ?_
      cases h
      exact zret_i Hy.1 Hy.2.2 hE (by decide +kernel)
  · replace h := zite_f h hb11
    refine zblq Hy.1 Hy.2.1 [(.iconst (-3), 2)] (S' := (12, [(0, .inr (.inr (some (11, 0)))), (1, .inl x1)], [.inl (-3 : Int32)], zfC M1)) (b := true) (by decide +kernel) rfl rfl ?_
    cases h
    exact zret_i Hy.1 Hy.2.2 hE (by decide +kernel)
theorem m11_result_met {l : Launch} {G : zG} (hG : zGok G) (hcn : zgcn G = zcC) {x1 : Int32} {M : cM} {r : Int32} {M' : cM} (h : m11_result x1 M = some (r, M')) : zMet l G yX11_result cX11_result 3 (some .int) 2 46 [.inr (.inr (some (11, 0))), .inl x1] (zfC M) (some (.inl r)) (zfC M') :=
  zMet_of hG tbX11_ok rfl (by decide +kernel) (Nat.le_of_ble_eq_true rfl) (fun X _ Z hA hE => m11_result_ok ⟨Z, hcn, hA⟩ hE x1 M h)
abbrev q3_children : ByteArray × Nat × String × zT := (cX3_children, 4, RX3, tbX3)
def m3_children_27 (k4 : Int32 → Int32 → Int32 → cM → Option (Int32 × cM)) (x1 : Int32) (x2 : Int32) (x3 : Int32) (M : cM) : Option (Int32 × cM) := k4 x1 x2 (x3 + (1 : Int32)) M
theorem m3_children_27_ok {X : zX} {G : zG} (Hy : zHy X G q3_children zcC 1 21 (some .int)) {r : Int32} {M' : cM} (hE : zEnd X G (some (.inl r)) (zfC M')) {k4 : Int32 → Int32 → Int32 → cM → Option (Int32 × cM)} (hk4 : ∀ (x1 : Int32) (x2 : Int32) (x3 : Int32) (M : cM), k4 x1 x2 x3 M = some (r, M') → zGo (X, q3_children, G) 0 0 (4, [(0, .inr (.inr (some (3, 0)))), (1, .inl x1), (2, .inl x2), (3, .inl x3)], [], zfC M)) (x1 : Int32) (x2 : Int32) (x3 : Int32) (M : cM) (h : m3_children_27 k4 x1 x2 x3 M = some (r, M')) : zGo (X, q3_children, G) 0 0 (27, [(0, .inr (.inr (some (3, 0)))), (1, .inl x1), (2, .inl x2), (3, .inl x3)], [], zfC M) := by
  unfold m3_children_27 at h
  refine zblq Hy.1 Hy.2.1 [(.iinc 3 1, 3), (.ldc 4, 3)] (S' := (4, [(0, .inr (.inr (some (3, 0)))), (1, .inl x1), (2, .inl x2), (3, .inl (x3 + (1 : Int32)))], [], zfC M)) (b := true) (by decide +kernel) rfl rfl ?_
  refine zGo_keep [0, 1, 2, 3] rfl ?_
  exact hk4 x1 x2 (x3 + (1 : Int32)) M h
def m3_children_4 : Nat → Int32 → Int32 → Int32 → cM → Option (Int32 × cM)
  | 0, _, _, _, _ => none
  | n + 1, x1, x2, x3, M => (if (cg M 3 0 4) ≤ x3 then some (x2, M) else zbd (m3_of x3 M) (fun r1 M1 => zgd (Nat.blt r1 10 && true) ((if (cg M1 2 r1 7) = x1 then m3_children_27 (m3_children_4 n) x1 (x2 + (1 : Int32)) x3 M1 else m3_children_27 (m3_children_4 n) x1 x2 x3 M1))))
theorem m3_children_4_ok {X : zX} {G : zG} (Hy : zHy X G q3_children zcC 1 21 (some .int)) {r : Int32} {M' : cM} (hE : zEnd X G (some (.inl r)) (zfC M')) : ∀ (n : Nat) (x1 : Int32) (x2 : Int32) (x3 : Int32) (M : cM), m3_children_4 n x1 x2 x3 M = some (r, M') → zGo (X, q3_children, G) 0 0 (4, [(0, .inr (.inr (some (3, 0)))), (1, .inl x1), (2, .inl x2), (3, .inl x3)], [], zfC M) := by
  intro n
  induction n with
  | zero => intro x1 x2 x3 M h; cases h
  | succ n ih =>
    intro x1 x2 x3 M h
    unfold m3_children_4 at h
    refine zblq Hy.1 Hy.2.1 [(.iload 3, 1), (.aload 0, 1), (.multianewarray 3 4, 3)] (S' := (9, [(0, .inr (.inr (some (3, 0)))), (1, .inl x1), (2, .inl x2), (3, .inl x3)], [.inl (cg M 3 0 4), .inl x3], zfC M)) (b := true) (by decide +kernel) rfl rfl ?_
    refine zic_ge Hy.1 (off := 24) (tgt := 33) (by decide +kernel) (by decide) (fun hb4 => ?_) (fun hb4 => ?_)
    · replace h := zite_t h hb4
      refine zblq Hy.1 Hy.2.1 [(.iload 2, 1)] (S' := (34, [(0, .inr (.inr (some (3, 0)))), (1, .inl x1), (2, .inl x2), (3, .inl x3)], [.inl x2], zfC M)) (b := true) (by decide +kernel) rfl rfl ?_
      cases h
      exact zret_i Hy.1 Hy.2.2 hE (by decide +kernel)
    · replace h := zite_f h hb4
      refine zblq Hy.1 Hy.2.1 [(.aload 0, 1), (.iload 3, 1)] (S' := (14, [(0, .inr (.inr (some (3, 0)))), (1, .inl x1), (2, .inl x2), (3, .inl x3)], [.inl x3, .inr (.inr (some (3, 0)))], zfC M)) (b := true) (by decide +kernel) rfl rfl ?_
      obtain ⟨r1, M1, hc1, h⟩ := zbd_inv h
      refine zcallV Hy.1 (as := [.inl x3]) (st := []) (m3_of_met (zOK_G Hy.1) Hy.2.1 hc1) cw3_63 m3_of_in m3_of_se (by decide) (zhlv Hy.2.1 rfl) rfl (zroom Hy.2.2 ⟨by decide, by decide⟩) rfl (by decide +kernel) ⟨Nat.zero_le _, Nat.zero_le _⟩ ?_
      obtain ⟨hg2, h⟩ := zgd_inv h
      refine zblq Hy.1 Hy.2.1 [(.multianewarray 2 7, 3), (.iload 1, 1)] (S' := (21, [(0, .inr (.inr (some (3, 0)))), (1, .inl x1), (2, .inl x2), (3, .inl x3)], [.inl x1, .inl (cg M1 2 r1 7)], zfC M1)) (b := Nat.blt r1 10 && true) (by decide +kernel) rfl hg2 ?_
      refine zic_ne Hy.1 (off := 6) (tgt := 27) (by decide +kernel) (by decide) (fun hb3 => ?_) (fun hb3 => ?_)
      · replace h := zite_f h hb3
        refine zGo_keep [0, 1, 2, 3] rfl ?_
        exact m3_children_27_ok Hy hE ih x1 x2 x3 M1 h
      · replace h := zite_t h hb3
        refine zblq Hy.1 Hy.2.1 [(.iinc 2 1, 3)] (S' := (27, [(0, .inr (.inr (some (3, 0)))), (1, .inl x1), (2, .inl (x2 + (1 : Int32))), (3, .inl x3)], [], zfC M1)) (b := true) (by decide +kernel) rfl rfl ?_
        refine zGo_keep [0, 1, 2, 3] rfl ?_
        exact m3_children_27_ok Hy hE ih x1 (x2 + (1 : Int32)) x3 M1 h
def m3_children (x1 : Int32) (M : cM) : Option (Int32 × cM) := m3_children_4 zfu x1 (0 : Int32) (0 : Int32) M
theorem m3_children_ok {X : zX} {G : zG} (Hy : zHy X G q3_children zcC 1 21 (some .int)) {r : Int32} {M' : cM} (hE : zEnd X G (some (.inl r)) (zfC M')) (x1 : Int32) (M : cM) (h : m3_children x1 M = some (r, M')) : zGo (X, q3_children, G) 0 0 (0, [(0, .inr (.inr (some (3, 0)))), (1, .inl x1)], [], zfC M) := by
  unfold m3_children at h
  refine zblq Hy.1 Hy.2.1 [(.iconst 0, 1), (.istore 2, 1), (.iconst 0, 1), (.istore 3, 1)] (S' := (4, [(0, .inr (.inr (some (3, 0)))), (1, .inl x1), (2, .inl (0 : Int32)), (3, .inl (0 : Int32))], [], zfC M)) (b := true) (by decide +kernel) rfl rfl ?_
  refine zGo_keep [0, 1, 2, 3] rfl ?_
  exact m3_children_4_ok Hy hE zfu x1 (0 : Int32) (0 : Int32) M h
theorem m3_children_met {l : Launch} {G : zG} (hG : zGok G) (hcn : zgcn G = zcC) {x1 : Int32} {M : cM} {r : Int32} {M' : cM} (h : m3_children x1 M = some (r, M')) : zMet l G yX3_children cX3_children 4 (some .int) 1 21 [.inr (.inr (some (3, 0))), .inl x1] (zfC M) (some (.inl r)) (zfC M') :=
  zMet_of hG tbX3_ok rfl (by decide +kernel) (Nat.le_of_ble_eq_true rfl) (fun X _ Z hA hE => m3_children_ok ⟨Z, hcn, hA⟩ hE x1 M h)
abbrev q5_restIn : ByteArray × Nat × String × zT := (cX5_restIn, 3, RX5, tbX5)
def m5_restIn_17 (t1 : Int32) (M : cM) : Option (Int32 × cM) := zbd (m3_setting t1 M) (fun r3 M3 => some (r3, M3))
theorem m5_restIn_17_ok {X : zX} {G : zG} (Hy : zHy X G q5_restIn zcC 2 43 (some .int)) {r : Int32} {M' : cM} (hE : zEnd X G (some (.inl r)) (zfC M')) (t1 : Int32) (M : cM) (h : m5_restIn_17 t1 M = some (r, M')) : zGo (X, q5_restIn, G) 0 0 (17, [], [.inl t1, .inr (.inr (some (3, 0)))], zfC M) := by
  unfold m5_restIn_17 at h
  obtain ⟨r3, M3, hc3, h⟩ := zbd_inv h
  refine zcallV Hy.1 (as := [.inl t1]) (st := []) (m3_setting_met (zOK_G Hy.1) Hy.2.1 hc3) cw5_44 m3_setting_in m3_setting_se (by decide) (zhlv Hy.2.1 rfl) rfl (zroom Hy.2.2 ⟨by decide, by decide⟩) rfl (by decide +kernel) ⟨Nat.zero_le _, Nat.zero_le _⟩ ?_
  cases h
  exact zret_i Hy.1 Hy.2.2 hE (by decide +kernel)
def m5_restIn (i1 : Nat) (x2 : Int32) (M : cM) : Option (Int32 × cM) := zgd (Nat.blt i1 10) (zbd (m2_rowWakes i1 x2 M) (fun r1 M1 => (if r1 = 0 then m5_restIn_17 (0 : Int32) M1 else m5_restIn_17 (1 : Int32) M1)))
theorem m5_restIn_ok {X : zX} {G : zG} (Hy : zHy X G q5_restIn zcC 2 43 (some .int)) {r : Int32} {M' : cM} (hE : zEnd X G (some (.inl r)) (zfC M')) (i1 : Nat) (x2 : Int32) (M : cM) (h : m5_restIn i1 x2 M = some (r, M')) : zGo (X, q5_restIn, G) 0 0 (0, [(0, .inr (.inr (some (5, 0)))), (1, .inr (.inr (some (2, i1)))), (2, .inl x2)], [], zfC M) := by
  unfold m5_restIn at h
  refine zblq Hy.1 Hy.2.1 [(.aload 0, 1), (.getfield 500, 3), (.aload 1, 1), (.iload 2, 1)] (S' := (6, [(0, .inr (.inr (some (5, 0)))), (1, .inr (.inr (some (2, i1)))), (2, .inl x2)], [.inl x2, .inr (.inr (some (2, i1))), .inr (.inr (some (3, 0)))], zfC M)) (b := true) (by decide +kernel) rfl rfl ?_
  obtain ⟨hg2, h⟩ := zgd_inv h
  obtain ⟨r1, M1, hc1, h⟩ := zbd_inv h
  refine zcallV Hy.1 (as := [.inl x2]) (st := [.inr (.inr (some (3, 0)))]) (m2_rowWakes_met (zOK_G Hy.1) Hy.2.1 hc1) cw5_111 m2_rowWakes_in m2_rowWakes_se (by decide) (zhlv Hy.2.1 hg2) rfl (zroom Hy.2.2 ⟨by decide, by decide⟩) rfl (by decide +kernel) ⟨Nat.zero_le _, Nat.zero_le _⟩ ?_
  refine zif_eq Hy.1 (off := 7) (tgt := 16) (by decide +kernel) (by decide) (fun hb4 => ?_) (fun hb4 => ?_)
  · replace h := zite_t h hb4
    refine zblq Hy.1 Hy.2.1 [(.iconst 0, 1)] (S' := (17, [(0, .inr (.inr (some (5, 0)))), (1, .inr (.inr (some (2, i1)))), (2, .inl x2)], [.inl (0 : Int32), .inr (.inr (some (3, 0)))], zfC M1)) (b := true) (by decide +kernel) rfl rfl ?_
    refine zGo_keep [] rfl ?_
    exact m5_restIn_17_ok Hy hE (0 : Int32) M1 h
  · replace h := zite_f h hb4
    refine zblq Hy.1 Hy.2.1 [(.iconst 1, 1), (.ldc 17, 3)] (S' := (17, [(0, .inr (.inr (some (5, 0)))), (1, .inr (.inr (some (2, i1)))), (2, .inl x2)], [.inl (1 : Int32), .inr (.inr (some (3, 0)))], zfC M1)) (b := true) (by decide +kernel) rfl rfl ?_
    refine zGo_keep [] rfl ?_
    exact m5_restIn_17_ok Hy hE (1 : Int32) M1 h
theorem m5_restIn_met {l : Launch} {G : zG} (hG : zGok G) (hcn : zgcn G = zcC) {i1 : Nat} {x2 : Int32} {M : cM} {r : Int32} {M' : cM} (h : m5_restIn i1 x2 M = some (r, M')) : zMet l G yX5_restIn cX5_restIn 3 (some .int) 2 43 [.inr (.inr (some (5, 0))), .inr (.inr (some (2, i1))), .inl x2] (zfC M) (some (.inl r)) (zfC M') :=
  zMet_of hG tbX5_ok rfl (by decide +kernel) (Nat.le_of_ble_eq_true rfl) (fun X _ Z hA hE => m5_restIn_ok ⟨Z, hcn, hA⟩ hE i1 x2 M h)
abbrev q5_spentIn : ByteArray × Nat × String × zT := (cX5_spentIn, 7, RX5, tbX5)
def m5_spentIn_108 (k55 : Int32 → Nat → Int32 → Int32 → Int32 → cM → Option (Int32 × cM)) (x2 : Int32) (i3 : Nat) (x4 : Int32) (x5 : Int32) (x6 : Int32) (M : cM) : Option (Int32 × cM) := k55 x2 i3 x4 x5 (x6 + (1 : Int32)) M
theorem m5_spentIn_108_ok {X : zX} {G : zG} (Hy : zHy X G q5_spentIn zcC 3 65 (some .int)) {r : Int32} {M' : cM} (hE : zEnd X G (some (.inl r)) (zfC M')) {k55 : Int32 → Nat → Int32 → Int32 → Int32 → cM → Option (Int32 × cM)} (hk55 : ∀ (x2 : Int32) (i3 : Nat) (x4 : Int32) (x5 : Int32) (x6 : Int32) (M : cM), k55 x2 i3 x4 x5 x6 M = some (r, M') → zGo (X, q5_spentIn, G) 0 0 (55, [(0, .inr (.inr (some (5, 0)))), (2, .inl x2), (3, .inr (.inr (some (2, i3)))), (4, .inl x4), (5, .inl x5), (6, .inl x6)], [], zfC M)) (x2 : Int32) (i3 : Nat) (x4 : Int32) (x5 : Int32) (x6 : Int32) (M : cM) (h : m5_spentIn_108 k55 x2 i3 x4 x5 x6 M = some (r, M')) : zGo (X, q5_spentIn, G) 0 0 (108, [(0, .inr (.inr (some (5, 0)))), (2, .inl x2), (3, .inr (.inr (some (2, i3)))), (4, .inl x4), (5, .inl x5), (6, .inl x6)], [], zfC M) := by
  unfold m5_spentIn_108 at h
  refine zblq Hy.1 Hy.2.1 [(.iinc 6 1, 3), (.ldc 55, 3)] (S' := (55, [(0, .inr (.inr (some (5, 0)))), (2, .inl x2), (3, .inr (.inr (some (2, i3)))), (4, .inl x4), (5, .inl x5), (6, .inl (x6 + (1 : Int32)))], [], zfC M)) (b := true) (by decide +kernel) rfl rfl ?_
  refine zGo_keep [0, 2, 3, 4, 5, 6] rfl ?_
  exact hk55 x2 i3 x4 x5 (x6 + (1 : Int32)) M h
def m5_spentIn_55 : Nat → Int32 → Nat → Int32 → Int32 → Int32 → cM → Option (Int32 × cM)
  | 0, _, _, _, _, _, _ => none
  | n + 1, x2, i3, x4, x5, x6, M => (if x2 ≤ x6 then some (x5, M) else zbd (m5_restIn i3 ((cg M 3 0 5) + x6) M) (fun r5 M5 => zbd (m7_beginsEpoch 1 ((cg M5 3 0 5) + x6) M5) (fun r6 M6 => (if r6 = 0 then m5_spentIn_108 (m5_spentIn_55 n) x2 i3 x4 (x5 + r5) x6 M6 else m5_spentIn_108 (m5_spentIn_55 n) x2 i3 x4 ((x5 + r5) + x4) x6 M6))))
theorem m5_spentIn_55_ok {X : zX} {G : zG} (Hy : zHy X G q5_spentIn zcC 3 65 (some .int)) {r : Int32} {M' : cM} (hE : zEnd X G (some (.inl r)) (zfC M')) : ∀ (n : Nat) (x2 : Int32) (i3 : Nat) (x4 : Int32) (x5 : Int32) (x6 : Int32) (M : cM), m5_spentIn_55 n x2 i3 x4 x5 x6 M = some (r, M') → zGo (X, q5_spentIn, G) 0 0 (55, [(0, .inr (.inr (some (5, 0)))), (2, .inl x2), (3, .inr (.inr (some (2, i3)))), (4, .inl x4), (5, .inl x5), (6, .inl x6)], [], zfC M) := by
  intro n
  induction n with
  | zero => intro x2 i3 x4 x5 x6 M h; cases h
  | succ n ih =>
    intro x2 i3 x4 x5 x6 M h
    unfold m5_spentIn_55 at h
    refine zblq Hy.1 Hy.2.1 [(.iload 6, 2), (.iload 2, 1)] (S' := (58, [(0, .inr (.inr (some (5, 0)))), (2, .inl x2), (3, .inr (.inr (some (2, i3)))), (4, .inl x4), (5, .inl x5), (6, .inl x6)], [.inl x2, .inl x6], zfC M)) (b := true) (by decide +kernel) rfl rfl ?_
    refine zic_ge Hy.1 (off := 56) (tgt := 114) (by decide +kernel) (by decide) (fun hb8 => ?_) (fun hb8 => ?_)
    · replace h := zite_t h hb8
      refine zblq Hy.1 Hy.2.1 [(.iload 5, 2)] (S' := (116, [(0, .inr (.inr (some (5, 0)))), (2, .inl x2), (3, .inr (.inr (some (2, i3)))), (4, .inl x4), (5, .inl x5), (6, .inl x6)], [.inl x5], zfC M)) (b := true) (by decide +kernel) rfl rfl ?_
      cases h
      exact zret_i Hy.1 Hy.2.2 hE (by decide +kernel)
    · replace h := zite_f h hb8
      refine zblq Hy.1 Hy.2.1 [(.iload 5, 2), (.aload 0, 1), (.aload 3, 1), (.aload 0, 1), (.getfield 500, 3), (.multianewarray 3 5, 3), (.iload 6, 2), (.iadd, 1)] (S' := (75, [(0, .inr (.inr (some (5, 0)))), (2, .inl x2), (3, .inr (.inr (some (2, i3)))), (4, .inl x4), (5, .inl x5), (6, .inl x6)], [.inl ((cg M 3 0 5) + x6), .inr (.inr (some (2, i3))), .inr (.inr (some (5, 0))), .inl x5], zfC M)) (b := true) (by decide +kernel) rfl rfl ?_
      obtain ⟨r5, M5, hc5, h⟩ := zbd_inv h
      refine zcallV Hy.1 (as := [.inr (.inr (some (2, i3))), .inl ((cg M 3 0 5) + x6)]) (st := [.inl x5]) (m5_restIn_met (zOK_G Hy.1) Hy.2.1 hc5) cw5_60 m5_restIn_in m5_restIn_se (by decide) (zhlv Hy.2.1 rfl) rfl (zroom Hy.2.2 ⟨by decide, by decide⟩) rfl (by decide +kernel) ⟨Nat.zero_le _, Nat.zero_le _⟩ ?_
      refine zblq Hy.1 Hy.2.1 [(.iadd, 1), (.istore 5, 2), (.aload 0, 1), (.getfield 501, 3), (.aload 0, 1), (.getfield 500, 3), (.multianewarray 3 5, 3), (.iload 6, 2), (.iadd, 1)] (S' := (95, [(0, .inr (.inr (some (5, 0)))), (2, .inl x2), (3, .inr (.inr (some (2, i3)))), (4, .inl x4), (5, .inl (x5 + r5)), (6, .inl x6)], [.inl ((cg M5 3 0 5) + x6), .inr (.inr (some (7, 1)))], zfC M5)) (b := true) (by decide +kernel) rfl rfl ?_
      obtain ⟨r6, M6, hc6, h⟩ := zbd_inv h
      refine zcallV Hy.1 (as := [.inl ((cg M5 3 0 5) + x6)]) (st := []) (m7_beginsEpoch_met (zOK_G Hy.1) Hy.2.1 hc6) cw5_64 m7_beginsEpoch_in m7_beginsEpoch_se (by decide) (zhlv Hy.2.1 rfl) rfl (zroom Hy.2.2 ⟨by decide, by decide⟩) rfl (by decide +kernel) ⟨Nat.zero_le _, Nat.zero_le _⟩ ?_
      refine zif_eq Hy.1 (off := 10) (tgt := 108) (by decide +kernel) (by decide) (fun hb7 => ?_) (fun hb7 => ?_)
      · replace h := zite_t h hb7
        refine zGo_keep [0, 2, 3, 4, 5, 6] rfl ?_
        exact m5_spentIn_108_ok Hy hE ih x2 i3 x4 (x5 + r5) x6 M6 h
      · replace h := zite_f h hb7
        refine zblq Hy.1 Hy.2.1 [(.iload 5, 2), (.iload 4, 2), (.iadd, 1), (.istore 5, 2)] (S' := (108, [(0, .inr (.inr (some (5, 0)))), (2, .inl x2), (3, .inr (.inr (some (2, i3)))), (4, .inl x4), (5, .inl ((x5 + r5) + x4)), (6, .inl x6)], [], zfC M6)) (b := true) (by decide +kernel) rfl rfl ?_
        refine zGo_keep [0, 2, 3, 4, 5, 6] rfl ?_
        exact m5_spentIn_108_ok Hy hE ih x2 i3 x4 ((x5 + r5) + x4) x6 M6 h
def m5_spentIn_49 (x2 : Int32) (i3 : Nat) (x4 : Int32) (M : cM) : Option (Int32 × cM) := m5_spentIn_55 zfu x2 i3 x4 (0 : Int32) (0 : Int32) M
theorem m5_spentIn_49_ok {X : zX} {G : zG} (Hy : zHy X G q5_spentIn zcC 3 65 (some .int)) {r : Int32} {M' : cM} (hE : zEnd X G (some (.inl r)) (zfC M')) (x2 : Int32) (i3 : Nat) (x4 : Int32) (M : cM) (h : m5_spentIn_49 x2 i3 x4 M = some (r, M')) : zGo (X, q5_spentIn, G) 0 0 (49, [(0, .inr (.inr (some (5, 0)))), (2, .inl x2), (3, .inr (.inr (some (2, i3)))), (4, .inl x4)], [], zfC M) := by
  unfold m5_spentIn_49 at h
  refine zblq Hy.1 Hy.2.1 [(.iconst 0, 1), (.istore 5, 2), (.iconst 0, 1), (.istore 6, 2)] (S' := (55, [(0, .inr (.inr (some (5, 0)))), (2, .inl x2), (3, .inr (.inr (some (2, i3)))), (4, .inl x4), (5, .inl (0 : Int32)), (6, .inl (0 : Int32))], [], zfC M)) (b := true) (by decide +kernel) rfl rfl ?_
  refine zGo_keep [0, 2, 3, 4, 5, 6] rfl ?_
  exact m5_spentIn_55_ok Hy hE zfu x2 i3 x4 (0 : Int32) (0 : Int32) M h
def m5_spentIn (x1 : Int32) (x2 : Int32) (M : cM) : Option (Int32 × cM) := zbd (m3_of x1 M) (fun r1 M1 => zbd (m3_setting (3 : Int32) M1) (fun r2 M2 => zbd (m3_children x1 M2) (fun r3 M3 => zgd (Nat.blt r1 10 && true) ((if (cg M3 2 r1 7) = (-1 : Int32) then m5_spentIn_49 x2 r1 (r2 * r3) M3 else zbd (m3_setting (2 : Int32) M3) (fun r9 M9 => m5_spentIn_49 x2 r1 ((r2 * r3) + r9) M9))))))
theorem m5_spentIn_ok {X : zX} {G : zG} (Hy : zHy X G q5_spentIn zcC 3 65 (some .int)) {r : Int32} {M' : cM} (hE : zEnd X G (some (.inl r)) (zfC M')) (x1 : Int32) (x2 : Int32) (M : cM) (h : m5_spentIn x1 x2 M = some (r, M')) : zGo (X, q5_spentIn, G) 0 0 (0, [(0, .inr (.inr (some (5, 0)))), (1, .inl x1), (2, .inl x2)], [], zfC M) := by
  unfold m5_spentIn at h
  refine zblq Hy.1 Hy.2.1 [(.aload 0, 1), (.getfield 500, 3), (.iload 1, 1)] (S' := (5, [(0, .inr (.inr (some (5, 0)))), (1, .inl x1), (2, .inl x2)], [.inl x1, .inr (.inr (some (3, 0)))], zfC M)) (b := true) (by decide +kernel) rfl rfl ?_
  obtain ⟨r1, M1, hc1, h⟩ := zbd_inv h
  refine zcallV Hy.1 (as := [.inl x1]) (st := []) (m3_of_met (zOK_G Hy.1) Hy.2.1 hc1) cw5_40 m3_of_in m3_of_se (by decide) (zhlv Hy.2.1 rfl) rfl (zroom Hy.2.2 ⟨by decide, by decide⟩) rfl (by decide +kernel) ⟨Nat.zero_le _, Nat.zero_le _⟩ ?_
  refine zblq Hy.1 Hy.2.1 [(.astore 3, 1), (.aload 0, 1), (.getfield 500, 3), (.iconst 3, 1)] (S' := (14, [(0, .inr (.inr (some (5, 0)))), (1, .inl x1), (2, .inl x2), (3, .inr (.inr (some (2, r1))))], [.inl (3 : Int32), .inr (.inr (some (3, 0)))], zfC M1)) (b := true) (by decide +kernel) rfl rfl ?_
  obtain ⟨r2, M2, hc2, h⟩ := zbd_inv h
  refine zcallV Hy.1 (as := [.inl (3 : Int32)]) (st := []) (m3_setting_met (zOK_G Hy.1) Hy.2.1 hc2) cw5_44 m3_setting_in m3_setting_se (by decide) (zhlv Hy.2.1 rfl) rfl (zroom Hy.2.2 ⟨by decide, by decide⟩) rfl (by decide +kernel) ⟨Nat.zero_le _, Nat.zero_le _⟩ ?_
  refine zblq Hy.1 Hy.2.1 [(.aload 0, 1), (.getfield 500, 3), (.iload 1, 1)] (S' := (22, [(0, .inr (.inr (some (5, 0)))), (1, .inl x1), (2, .inl x2), (3, .inr (.inr (some (2, r1))))], [.inl x1, .inr (.inr (some (3, 0))), .inl r2], zfC M2)) (b := true) (by decide +kernel) rfl rfl ?_
  obtain ⟨r3, M3, hc3, h⟩ := zbd_inv h
  refine zcallV Hy.1 (as := [.inl x1]) (st := [.inl r2]) (m3_children_met (zOK_G Hy.1) Hy.2.1 hc3) cw5_48 m3_children_in m3_children_se (by decide) (zhlv Hy.2.1 rfl) rfl (zroom Hy.2.2 ⟨by decide, by decide⟩) rfl (by decide +kernel) ⟨Nat.zero_le _, Nat.zero_le _⟩ ?_
  obtain ⟨hg4, h⟩ := zgd_inv h
  refine zblq Hy.1 Hy.2.1 [(.imul, 1), (.istore 4, 2), (.aload 3, 1), (.multianewarray 2 7, 3), (.iconst (-1), 1)] (S' := (33, [(0, .inr (.inr (some (5, 0)))), (1, .inl x1), (2, .inl x2), (3, .inr (.inr (some (2, r1)))), (4, .inl (r2 * r3))], [.inl (-1 : Int32), .inl (cg M3 2 r1 7)], zfC M3)) (b := Nat.blt r1 10 && true) (by decide +kernel) rfl hg4 ?_
  refine zic_eq Hy.1 (off := 16) (tgt := 49) (by decide +kernel) (by decide) (fun hb10 => ?_) (fun hb10 => ?_)
  · replace h := zite_t h hb10
    refine zGo_keep [0, 2, 3, 4] rfl ?_
    exact m5_spentIn_49_ok Hy hE x2 r1 (r2 * r3) M3 h
  · replace h := zite_f h hb10
    refine zblq Hy.1 Hy.2.1 [(.iload 4, 2), (.aload 0, 1), (.getfield 500, 3), (.iconst 2, 1)] (S' := (43, [(0, .inr (.inr (some (5, 0)))), (1, .inl x1), (2, .inl x2), (3, .inr (.inr (some (2, r1)))), (4, .inl (r2 * r3))], [.inl (2 : Int32), .inr (.inr (some (3, 0))), .inl (r2 * r3)], zfC M3)) (b := true) (by decide +kernel) rfl rfl ?_
    obtain ⟨r9, M9, hc9, h⟩ := zbd_inv h
    refine zcallV Hy.1 (as := [.inl (2 : Int32)]) (st := [.inl (r2 * r3)]) (m3_setting_met (zOK_G Hy.1) Hy.2.1 hc9) cw5_44 m3_setting_in m3_setting_se (by decide) (zhlv Hy.2.1 rfl) rfl (zroom Hy.2.2 ⟨by decide, by decide⟩) rfl (by decide +kernel) ⟨Nat.zero_le _, Nat.zero_le _⟩ ?_
    refine zblq Hy.1 Hy.2.1 [(.iadd, 1), (.istore 4, 2)] (S' := (49, [(0, .inr (.inr (some (5, 0)))), (1, .inl x1), (2, .inl x2), (3, .inr (.inr (some (2, r1)))), (4, .inl ((r2 * r3) + r9))], [], zfC M9)) (b := true) (by decide +kernel) rfl rfl ?_
    refine zGo_keep [0, 2, 3, 4] rfl ?_
    exact m5_spentIn_49_ok Hy hE x2 r1 ((r2 * r3) + r9) M9 h
theorem m5_spentIn_met {l : Launch} {G : zG} (hG : zGok G) (hcn : zgcn G = zcC) {x1 : Int32} {x2 : Int32} {M : cM} {r : Int32} {M' : cM} (h : m5_spentIn x1 x2 M = some (r, M')) : zMet l G yX5_spentIn cX5_spentIn 7 (some .int) 3 65 [.inr (.inr (some (5, 0))), .inl x1, .inl x2] (zfC M) (some (.inl r)) (zfC M') :=
  zMet_of hG tbX5_ok rfl (by decide +kernel) (Nat.le_of_ble_eq_true rfl) (fun X _ Z hA hE => m5_spentIn_ok ⟨Z, hcn, hA⟩ hE x1 x2 M h)
abbrev q11_foretold : ByteArray × Nat × String × zT := (cX11_foretold, 3, RX11, tbX11)
def m11_foretold (x1 : Int32) (x2 : Int32) (M : cM) : Option (Int32 × cM) := zbd (m3_knows x1 M) (fun r1 M1 => (if r1 = 0 then some ((-2 : Int32), M1) else zbd (m11_outside x2 (0 : Int32) (1000 : Int32) M1) (fun r2 M2 => (if r2 = 0 then zbd (m5_spentIn x1 x2 M2) (fun r3 M3 => some (r3, M3)) else some ((-3 : Int32), M2)))))
theorem m11_foretold_ok {X : zX} {G : zG} (Hy : zHy X G q11_foretold zcC 4 91 (some .int)) {r : Int32} {M' : cM} (hE : zEnd X G (some (.inl r)) (zfC M')) (x1 : Int32) (x2 : Int32) (M : cM) (h : m11_foretold x1 x2 M = some (r, M')) : zGo (X, q11_foretold, G) 0 0 (0, [(0, .inr (.inr (some (11, 0)))), (1, .inl x1), (2, .inl x2)], [], zfC M) := by
  unfold m11_foretold at h
  refine zblq Hy.1 Hy.2.1 [(.aload 0, 1), (.getfield 1100, 3), (.iload 1, 1)] (S' := (5, [(0, .inr (.inr (some (11, 0)))), (1, .inl x1), (2, .inl x2)], [.inl x1, .inr (.inr (some (3, 0)))], zfC M)) (b := true) (by decide +kernel) rfl rfl ?_
  obtain ⟨r1, M1, hc1, h⟩ := zbd_inv h
  refine zcallV Hy.1 (as := [.inl x1]) (st := []) (m3_knows_met (zOK_G Hy.1) Hy.2.1 hc1) cw11_74 m3_knows_in m3_knows_se (by decide) (zhlv Hy.2.1 rfl) rfl (zroom Hy.2.2 ⟨by decide, by decide⟩) rfl (by decide +kernel) ⟨Nat.zero_le _, Nat.zero_le _⟩ ?_
  refine zif_ne Hy.1 (off := 6) (tgt := 14) (by decide +kernel) (by decide) (fun hb5 => ?_) (fun hb5 => ?_)
  · replace h := zite_f h hb5
    refine zblq Hy.1 Hy.2.1 [(.iload 2, 1), (.iconst 0, 1), (.iconst 1000, 3)] (S' := (19, [(0, .inr (.inr (some (11, 0)))), (1, .inl x1), (2, .inl x2)], [.inl (1000 : Int32), .inl (0 : Int32), .inl x2], zfC M1)) (b := true) (by decide +kernel) rfl rfl ?_
    obtain ⟨r2, M2, hc2, h⟩ := zbd_inv h
    refine zcallS Hy.1 (as := [.inl x2, .inl (0 : Int32), .inl (1000 : Int32)]) (st := []) (m11_outside_met (zOK_G Hy.1) Hy.2.1 hc2) cw11_66 m11_outside_in rfl (zroom Hy.2.2 ⟨by decide, by decide⟩) rfl (by decide +kernel) ⟨Nat.zero_le _, Nat.zero_le _⟩ ?_
    refine zif_eq Hy.1 (off := 6) (tgt := 28) (by decide +kernel) (by decide) (fun hb4 => ?_) (fun hb4 => ?_)
    · replace h := zite_t h hb4
      refine zblq Hy.1 Hy.2.1 [(.aload 0, 1), (.getfield 1103, 3), (.iload 1, 1), (.iload 2, 1)] (S' := (34, [(0, .inr (.inr (some (11, 0)))), (1, .inl x1), (2, .inl x2)], [.inl x2, .inl x1, .inr (.inr (some (5, 0)))], zfC M2)) (b := true) (by decide +kernel) rfl rfl ?_
      obtain ⟨r3, M3, hc3, h⟩ := zbd_inv h
      refine zcallV Hy.1 (as := [.inl x1, .inl x2]) (st := []) (m5_spentIn_met (zOK_G Hy.1) Hy.2.1 hc3) cw11_227 m5_spentIn_in m5_spentIn_se (by decide) (zhlv Hy.2.1 rfl) rfl (zroom Hy.2.2 ⟨by decide, by decide⟩) rfl (by decide +kernel) ⟨Nat.zero_le _, Nat.zero_le _⟩ ?_
      cases h
      exact zret_i Hy.1 Hy.2.2 hE (by decide +kernel)
    · replace h := zite_f h hb4
      refine zblq Hy.1 Hy.2.1 [(.iconst (-3), 2)] (S' := (27, [(0, .inr (.inr (some (11, 0)))), (1, .inl x1), (2, .inl x2)], [.inl (-3 : Int32)], zfC M2)) (b := true) (by decide +kernel) rfl rfl ?_
      cases h
      exact zret_i Hy.1 Hy.2.2 hE (by decide +kernel)
  · replace h := zite_t h hb5
    refine zblq Hy.1 Hy.2.1 [(.iconst (-2), 2)] (S' := (13, [(0, .inr (.inr (some (11, 0)))), (1, .inl x1), (2, .inl x2)], [.inl (-2 : Int32)], zfC M1)) (b := true) (by decide +kernel) rfl rfl ?_
    cases h
    exact zret_i Hy.1 Hy.2.2 hE (by decide +kernel)
theorem m11_foretold_met {l : Launch} {G : zG} (hG : zGok G) (hcn : zgcn G = zcC) {x1 : Int32} {x2 : Int32} {M : cM} {r : Int32} {M' : cM} (h : m11_foretold x1 x2 M = some (r, M')) : zMet l G yX11_foretold cX11_foretold 3 (some .int) 4 91 [.inr (.inr (some (11, 0))), .inl x1, .inl x2] (zfC M) (some (.inl r)) (zfC M') :=
  zMet_of hG tbX11_ok rfl (by decide +kernel) (Nat.le_of_ble_eq_true rfl) (fun X _ Z hA hE => m11_foretold_ok ⟨Z, hcn, hA⟩ hE x1 x2 M h)
abbrev q5_foreseeLives : ByteArray × Nat × String × zT := (cX5_foreseeLives, 9, RX5, tbX5)
def m5_foreseeLives_165 : Nat → Int32 → Int32 → Int32 → cM → Option cM
  | 0, _, _, _, _ => none
  | n + 1, x1, x4, x7, M => (if x4 < x7 then some M else zgd (zin (((10 : Int32) * x1) + x7) 100 && true) ((m5_foreseeLives_165 n) x1 x4 (x7 + (1 : Int32)) (cs M 602 0 (nx (((10 : Int32) * x1) + x7)) (1000 : Int32))))
theorem m5_foreseeLives_165_ok {X : zX} {G : zG} (Hy : zHy X G q5_foreseeLives zcC 3 65 (none)) {M' : cM} (hE : zEnd X G (none) (zfC M')) : ∀ (n : Nat) (x1 : Int32) (x4 : Int32) (x7 : Int32) (M : cM), m5_foreseeLives_165 n x1 x4 x7 M = some M' → zGo (X, q5_foreseeLives, G) 0 0 (165, [(0, .inr (.inr (some (5, 0)))), (1, .inl x1), (4, .inl x4), (7, .inl x7)], [], zfC M) := by
  intro n
  induction n with
  | zero => intro x1 x4 x7 M h; cases h
  | succ n ih =>
    intro x1 x4 x7 M h
    unfold m5_foreseeLives_165 at h
    refine zblq Hy.1 Hy.2.1 [(.iload 7, 2), (.iload 4, 2)] (S' := (169, [(0, .inr (.inr (some (5, 0)))), (1, .inl x1), (4, .inl x4), (7, .inl x7)], [.inl x4, .inl x7], zfC M)) (b := true) (by decide +kernel) rfl rfl ?_
    refine zic_gt Hy.1 (off := 24) (tgt := 193) (by decide +kernel) (by decide) (fun hb3 => ?_) (fun hb3 => ?_)
    · replace h := zite_t h hb3
      cases h
      exact zret_v Hy.1 Hy.2.2 hE (by decide +kernel)
    · replace h := zite_f h hb3
      obtain ⟨hg2, h⟩ := zgd_inv h
      refine zblq Hy.1 Hy.2.1 [(.aload 0, 1), (.getfield 502, 3), (.iconst 10, 2), (.iload 1, 1), (.imul, 1), (.iload 7, 2), (.iadd, 1), (.iconst 1000, 3), (.iastore, 1), (.iinc 7 1, 3), (.ldc 165, 3)] (S' := (165, [(0, .inr (.inr (some (5, 0)))), (1, .inl x1), (4, .inl x4), (7, .inl (x7 + (1 : Int32)))], [], zfC (cs M 602 0 (nx (((10 : Int32) * x1) + x7)) (1000 : Int32)))) (b := zin (((10 : Int32) * x1) + x7) 100 && true) (by decide +kernel) rfl hg2 ?_
      refine zGo_keep [0, 1, 4, 7] rfl ?_
      exact ih x1 x4 (x7 + (1 : Int32)) (cs M 602 0 (nx (((10 : Int32) * x1) + x7)) (1000 : Int32)) h
def m5_foreseeLives_162 (x1 : Int32) (x4 : Int32) (M : cM) : Option cM := m5_foreseeLives_165 zfu x1 x4 (0 : Int32) M
theorem m5_foreseeLives_162_ok {X : zX} {G : zG} (Hy : zHy X G q5_foreseeLives zcC 3 65 (none)) {M' : cM} (hE : zEnd X G (none) (zfC M')) (x1 : Int32) (x4 : Int32) (M : cM) (h : m5_foreseeLives_162 x1 x4 M = some M') : zGo (X, q5_foreseeLives, G) 0 0 (162, [(0, .inr (.inr (some (5, 0)))), (1, .inl x1), (4, .inl x4)], [], zfC M) := by
  unfold m5_foreseeLives_162 at h
  refine zblq Hy.1 Hy.2.1 [(.iconst 0, 1), (.istore 7, 2)] (S' := (165, [(0, .inr (.inr (some (5, 0)))), (1, .inl x1), (4, .inl x4), (7, .inl (0 : Int32))], [], zfC M)) (b := true) (by decide +kernel) rfl rfl ?_
  refine zGo_keep [0, 1, 4, 7] rfl ?_
  exact m5_foreseeLives_165_ok Hy hE zfu x1 x4 (0 : Int32) M h
def m5_foreseeLives_156 (k33 : Int32 → Int32 → Nat → Int32 → Int32 → Int32 → Int32 → cM → Option cM) (x1 : Int32) (x2 : Int32) (i3 : Nat) (x4 : Int32) (x5 : Int32) (x6 : Int32) (x7 : Int32) (M : cM) : Option cM := k33 x1 x2 i3 x4 x5 x6 (x7 + (1 : Int32)) M
theorem m5_foreseeLives_156_ok {X : zX} {G : zG} (Hy : zHy X G q5_foreseeLives zcC 3 65 (none)) {M' : cM} (hE : zEnd X G (none) (zfC M')) {k33 : Int32 → Int32 → Nat → Int32 → Int32 → Int32 → Int32 → cM → Option cM} (hk33 : ∀ (x1 : Int32) (x2 : Int32) (i3 : Nat) (x4 : Int32) (x5 : Int32) (x6 : Int32) (x7 : Int32) (M : cM), k33 x1 x2 i3 x4 x5 x6 x7 M = some M' → zGo (X, q5_foreseeLives, G) 0 0 (33, [(0, .inr (.inr (some (5, 0)))), (1, .inl x1), (2, .inl x2), (3, .inr (.inr (some (2, i3)))), (4, .inl x4), (5, .inl x5), (6, .inl x6), (7, .inl x7)], [], zfC M)) (x1 : Int32) (x2 : Int32) (i3 : Nat) (x4 : Int32) (x5 : Int32) (x6 : Int32) (x7 : Int32) (M : cM) (h : m5_foreseeLives_156 k33 x1 x2 i3 x4 x5 x6 x7 M = some M') : zGo (X, q5_foreseeLives, G) 0 0 (156, [(0, .inr (.inr (some (5, 0)))), (1, .inl x1), (2, .inl x2), (3, .inr (.inr (some (2, i3)))), (4, .inl x4), (5, .inl x5), (6, .inl x6), (7, .inl x7)], [], zfC M) := by
  unfold m5_foreseeLives_156 at h
  refine zblq Hy.1 Hy.2.1 [(.iinc 7 1, 3), (.ldc 33, 3)] (S' := (33, [(0, .inr (.inr (some (5, 0)))), (1, .inl x1), (2, .inl x2), (3, .inr (.inr (some (2, i3)))), (4, .inl x4), (5, .inl x5), (6, .inl x6), (7, .inl (x7 + (1 : Int32)))], [], zfC M)) (b := true) (by decide +kernel) rfl rfl ?_
  refine zGo_keep [0, 1, 2, 3, 4, 5, 6, 7] rfl ?_
  exact hk33 x1 x2 i3 x4 x5 x6 (x7 + (1 : Int32)) M h
def m5_foreseeLives_114 (k33 : Int32 → Int32 → Nat → Int32 → Int32 → Int32 → Int32 → cM → Option cM) : Nat → Int32 → Int32 → Nat → Int32 → Int32 → Int32 → Int32 → cM → Option cM
  | 0, _, _, _, _, _, _, _, _ => none
  | n + 1, x1, x2, i3, x4, x5, x6, x7, M => (if x4 < 0 then m5_foreseeLives_156 k33 x1 x2 i3 x4 x5 x6 x7 M else zgd (Nat.blt i3 10 && true) ((if (x5 + (x4 * x6)) ≤ (cg M 2 i3 2) then m5_foreseeLives_156 k33 x1 x2 i3 x4 x5 x6 x7 M else zgd (zin (((10 : Int32) * x1) + x4) 100 && true) ((m5_foreseeLives_114 k33 n) x1 x2 i3 (x4 + (-1 : Int32)) x5 x6 x7 (cs M 602 0 (nx (((10 : Int32) * x1) + x4)) (x7 - (1 : Int32)))))))
theorem m5_foreseeLives_114_ok {X : zX} {G : zG} (Hy : zHy X G q5_foreseeLives zcC 3 65 (none)) {M' : cM} (hE : zEnd X G (none) (zfC M')) {k33 : Int32 → Int32 → Nat → Int32 → Int32 → Int32 → Int32 → cM → Option cM} (hk33 : ∀ (x1 : Int32) (x2 : Int32) (i3 : Nat) (x4 : Int32) (x5 : Int32) (x6 : Int32) (x7 : Int32) (M : cM), k33 x1 x2 i3 x4 x5 x6 x7 M = some M' → zGo (X, q5_foreseeLives, G) 0 0 (33, [(0, .inr (.inr (some (5, 0)))), (1, .inl x1), (2, .inl x2), (3, .inr (.inr (some (2, i3)))), (4, .inl x4), (5, .inl x5), (6, .inl x6), (7, .inl x7)], [], zfC M)) : ∀ (n : Nat) (x1 : Int32) (x2 : Int32) (i3 : Nat) (x4 : Int32) (x5 : Int32) (x6 : Int32) (x7 : Int32) (M : cM), m5_foreseeLives_114 k33 n x1 x2 i3 x4 x5 x6 x7 M = some M' → zGo (X, q5_foreseeLives, G) 0 0 (114, [(0, .inr (.inr (some (5, 0)))), (1, .inl x1), (2, .inl x2), (3, .inr (.inr (some (2, i3)))), (4, .inl x4), (5, .inl x5), (6, .inl x6), (7, .inl x7)], [], zfC M) := by
  intro n
  induction n with
  | zero => intro x1 x2 i3 x4 x5 x6 x7 M h; cases h
  | succ n ih =>
    intro x1 x2 i3 x4 x5 x6 x7 M h
    unfold m5_foreseeLives_114 at h
    refine zblq Hy.1 Hy.2.1 [(.iload 4, 2)] (S' := (116, [(0, .inr (.inr (some (5, 0)))), (1, .inl x1), (2, .inl x2), (3, .inr (.inr (some (2, i3)))), (4, .inl x4), (5, .inl x5), (6, .inl x6), (7, .inl x7)], [.inl x4], zfC M)) (b := true) (by decide +kernel) rfl rfl ?_
    refine zif_lt Hy.1 (off := 40) (tgt := 156) (by decide +kernel) (by decide) (fun hb9 => ?_) (fun hb9 => ?_)
    · replace h := zite_t h hb9
      refine zGo_keep [0, 1, 2, 3, 4, 5, 6, 7] rfl ?_
      exact m5_foreseeLives_156_ok Hy hE hk33 x1 x2 i3 x4 x5 x6 x7 M h
    · replace h := zite_f h hb9
      obtain ⟨hg6, h⟩ := zgd_inv h
      refine zblq Hy.1 Hy.2.1 [(.iload 5, 2), (.iload 4, 2), (.iload 6, 2), (.imul, 1), (.iadd, 1), (.aload 3, 1), (.multianewarray 2 2, 3)] (S' := (131, [(0, .inr (.inr (some (5, 0)))), (1, .inl x1), (2, .inl x2), (3, .inr (.inr (some (2, i3)))), (4, .inl x4), (5, .inl x5), (6, .inl x6), (7, .inl x7)], [.inl (cg M 2 i3 2), .inl (x5 + (x4 * x6))], zfC M)) (b := Nat.blt i3 10 && true) (by decide +kernel) rfl hg6 ?_
      refine zic_le Hy.1 (off := 25) (tgt := 156) (by decide +kernel) (by decide) (fun hb8 => ?_) (fun hb8 => ?_)
      · replace h := zite_t h hb8
        refine zGo_keep [0, 1, 2, 3, 4, 5, 6, 7] rfl ?_
        exact m5_foreseeLives_156_ok Hy hE hk33 x1 x2 i3 x4 x5 x6 x7 M h
      · replace h := zite_f h hb8
        obtain ⟨hg7, h⟩ := zgd_inv h
        refine zblq Hy.1 Hy.2.1 [(.aload 0, 1), (.getfield 502, 3), (.iconst 10, 2), (.iload 1, 1), (.imul, 1), (.iload 4, 2), (.iadd, 1), (.iload 7, 2), (.iconst 1, 1), (.isub, 1), (.iastore, 1), (.iinc 4 (-1), 3), (.ldc 114, 3)] (S' := (114, [(0, .inr (.inr (some (5, 0)))), (1, .inl x1), (2, .inl x2), (3, .inr (.inr (some (2, i3)))), (4, .inl (x4 + (-1 : Int32))), (5, .inl x5), (6, .inl x6), (7, .inl x7)], [], zfC (cs M 602 0 (nx (((10 : Int32) * x1) + x4)) (x7 - (1 : Int32))))) (b := zin (((10 : Int32) * x1) + x4) 100 && true) (by decide +kernel) rfl hg7 ?_
        refine zGo_keep [0, 1, 2, 3, 4, 5, 6, 7] rfl ?_
        exact ih x1 x2 i3 (x4 + (-1 : Int32)) x5 x6 x7 (cs M 602 0 (nx (((10 : Int32) * x1) + x4)) (x7 - (1 : Int32))) h
def m5_foreseeLives_33 : Nat → Int32 → Int32 → Nat → Int32 → Int32 → Int32 → Int32 → cM → Option cM
  | 0, _, _, _, _, _, _, _, _ => none
  | n + 1, x1, x2, i3, x4, x5, x6, x7, M => (if (1000 : Int32) < x7 then m5_foreseeLives_162 x1 x4 M else (if x4 < 0 then m5_foreseeLives_162 x1 x4 M else zbd (m5_restIn i3 (((cg M 3 0 5) + x7) - (1 : Int32)) M) (fun r4 M4 => zbd (m7_beginsEpoch 1 (((cg M 3 0 5) + x7) - (1 : Int32)) M4) (fun r5 M5 => (if r5 = 0 then m5_foreseeLives_114 (m5_foreseeLives_33 n) zfu x1 x2 i3 x4 (x5 + r4) x6 x7 M5 else zbd (m3_setting (3 : Int32) M5) (fun r10 M10 => (if x2 = 0 then m5_foreseeLives_114 (m5_foreseeLives_33 n) zfu x1 x2 i3 x4 (x5 + r4) (x6 + r10) x7 M10 else zbd (m3_setting (2 : Int32) M10) (fun r11 M11 => m5_foreseeLives_114 (m5_foreseeLives_33 n) zfu x1 x2 i3 x4 ((x5 + r4) + r11) (x6 + r10) x7 M11))))))))
theorem m5_foreseeLives_33_ok {X : zX} {G : zG} (Hy : zHy X G q5_foreseeLives zcC 3 65 (none)) {M' : cM} (hE : zEnd X G (none) (zfC M')) : ∀ (n : Nat) (x1 : Int32) (x2 : Int32) (i3 : Nat) (x4 : Int32) (x5 : Int32) (x6 : Int32) (x7 : Int32) (M : cM), m5_foreseeLives_33 n x1 x2 i3 x4 x5 x6 x7 M = some M' → zGo (X, q5_foreseeLives, G) 0 0 (33, [(0, .inr (.inr (some (5, 0)))), (1, .inl x1), (2, .inl x2), (3, .inr (.inr (some (2, i3)))), (4, .inl x4), (5, .inl x5), (6, .inl x6), (7, .inl x7)], [], zfC M) := by
  intro n
  induction n with
  | zero => intro x1 x2 i3 x4 x5 x6 x7 M h; cases h
  | succ n ih =>
    intro x1 x2 i3 x4 x5 x6 x7 M h
    unfold m5_foreseeLives_33 at h
    refine zblq Hy.1 Hy.2.1 [(.iload 7, 2), (.iconst 1000, 3)] (S' := (38, [(0, .inr (.inr (some (5, 0)))), (1, .inl x1), (2, .inl x2), (3, .inr (.inr (some (2, i3)))), (4, .inl x4), (5, .inl x5), (6, .inl x6), (7, .inl x7)], [.inl (1000 : Int32), .inl x7], zfC M)) (b := true) (by decide +kernel) rfl rfl ?_
    refine zic_gt Hy.1 (off := 124) (tgt := 162) (by decide +kernel) (by decide) (fun hb15 => ?_) (fun hb15 => ?_)
    · replace h := zite_t h hb15
      refine zGo_keep [0, 1, 4] rfl ?_
      exact m5_foreseeLives_162_ok Hy hE x1 x4 M h
    · replace h := zite_f h hb15
      refine zblq Hy.1 Hy.2.1 [(.iload 4, 2)] (S' := (43, [(0, .inr (.inr (some (5, 0)))), (1, .inl x1), (2, .inl x2), (3, .inr (.inr (some (2, i3)))), (4, .inl x4), (5, .inl x5), (6, .inl x6), (7, .inl x7)], [.inl x4], zfC M)) (b := true) (by decide +kernel) rfl rfl ?_
      refine zif_lt Hy.1 (off := 119) (tgt := 162) (by decide +kernel) (by decide) (fun hb14 => ?_) (fun hb14 => ?_)
      · replace h := zite_t h hb14
        refine zGo_keep [0, 1, 4] rfl ?_
        exact m5_foreseeLives_162_ok Hy hE x1 x4 M h
      · replace h := zite_f h hb14
        refine zblq Hy.1 Hy.2.1 [(.aload 0, 1), (.getfield 500, 3), (.multianewarray 3 5, 3), (.iload 7, 2), (.iadd, 1), (.iconst 1, 1), (.isub, 1), (.istore 8, 2), (.iload 5, 2), (.aload 0, 1), (.aload 3, 1), (.iload 8, 2)] (S' := (66, [(0, .inr (.inr (some (5, 0)))), (1, .inl x1), (2, .inl x2), (3, .inr (.inr (some (2, i3)))), (4, .inl x4), (5, .inl x5), (6, .inl x6), (7, .inl x7), (8, .inl (((cg M 3 0 5) + x7) - (1 : Int32)))], [.inl (((cg M 3 0 5) + x7) - (1 : Int32)), .inr (.inr (some (2, i3))), .inr (.inr (some (5, 0))), .inl x5], zfC M)) (b := true) (by decide +kernel) rfl rfl ?_
        obtain ⟨r4, M4, hc4, h⟩ := zbd_inv h
        refine zcallV Hy.1 (as := [.inr (.inr (some (2, i3))), .inl (((cg M 3 0 5) + x7) - (1 : Int32))]) (st := [.inl x5]) (m5_restIn_met (zOK_G Hy.1) Hy.2.1 hc4) cw5_60 m5_restIn_in m5_restIn_se (by decide) (zhlv Hy.2.1 rfl) rfl (zroom Hy.2.2 ⟨by decide, by decide⟩) rfl (by decide +kernel) ⟨Nat.zero_le _, Nat.zero_le _⟩ ?_
        refine zblq Hy.1 Hy.2.1 [(.iadd, 1), (.istore 5, 2), (.aload 0, 1), (.getfield 501, 3), (.iload 8, 2)] (S' := (78, [(0, .inr (.inr (some (5, 0)))), (1, .inl x1), (2, .inl x2), (3, .inr (.inr (some (2, i3)))), (4, .inl x4), (5, .inl (x5 + r4)), (6, .inl x6), (7, .inl x7), (8, .inl (((cg M 3 0 5) + x7) - (1 : Int32)))], [.inl (((cg M 3 0 5) + x7) - (1 : Int32)), .inr (.inr (some (7, 1)))], zfC M4)) (b := true) (by decide +kernel) rfl rfl ?_
        obtain ⟨r5, M5, hc5, h⟩ := zbd_inv h
        refine zcallV Hy.1 (as := [.inl (((cg M 3 0 5) + x7) - (1 : Int32))]) (st := []) (m7_beginsEpoch_met (zOK_G Hy.1) Hy.2.1 hc5) cw5_64 m7_beginsEpoch_in m7_beginsEpoch_se (by decide) (zhlv Hy.2.1 rfl) rfl (zroom Hy.2.2 ⟨by decide, by decide⟩) rfl (by decide +kernel) ⟨Nat.zero_le _, Nat.zero_le _⟩ ?_
        refine zif_eq Hy.1 (off := 33) (tgt := 114) (by decide +kernel) (by decide) (fun hb13 => ?_) (fun hb13 => ?_)
        · replace h := zite_t h hb13
          refine zGo_keep [0, 1, 2, 3, 4, 5, 6, 7] rfl ?_
          exact m5_foreseeLives_114_ok Hy hE ih zfu x1 x2 i3 x4 (x5 + r4) x6 x7 M5 h
        · replace h := zite_f h hb13
          refine zblq Hy.1 Hy.2.1 [(.iload 6, 2), (.aload 0, 1), (.getfield 500, 3), (.iconst 3, 1)] (S' := (91, [(0, .inr (.inr (some (5, 0)))), (1, .inl x1), (2, .inl x2), (3, .inr (.inr (some (2, i3)))), (4, .inl x4), (5, .inl (x5 + r4)), (6, .inl x6), (7, .inl x7), (8, .inl (((cg M 3 0 5) + x7) - (1 : Int32)))], [.inl (3 : Int32), .inr (.inr (some (3, 0))), .inl x6], zfC M5)) (b := true) (by decide +kernel) rfl rfl ?_
          obtain ⟨r10, M10, hc10, h⟩ := zbd_inv h
          refine zcallV Hy.1 (as := [.inl (3 : Int32)]) (st := [.inl x6]) (m3_setting_met (zOK_G Hy.1) Hy.2.1 hc10) cw5_44 m3_setting_in m3_setting_se (by decide) (zhlv Hy.2.1 rfl) rfl (zroom Hy.2.2 ⟨by decide, by decide⟩) rfl (by decide +kernel) ⟨Nat.zero_le _, Nat.zero_le _⟩ ?_
          refine zblq Hy.1 Hy.2.1 [(.iadd, 1), (.istore 6, 2), (.iload 2, 1)] (S' := (98, [(0, .inr (.inr (some (5, 0)))), (1, .inl x1), (2, .inl x2), (3, .inr (.inr (some (2, i3)))), (4, .inl x4), (5, .inl (x5 + r4)), (6, .inl (x6 + r10)), (7, .inl x7), (8, .inl (((cg M 3 0 5) + x7) - (1 : Int32)))], [.inl x2], zfC M10)) (b := true) (by decide +kernel) rfl rfl ?_
          refine zif_eq Hy.1 (off := 16) (tgt := 114) (by decide +kernel) (by decide) (fun hb12 => ?_) (fun hb12 => ?_)
          · replace h := zite_t h hb12
            refine zGo_keep [0, 1, 2, 3, 4, 5, 6, 7] rfl ?_
            exact m5_foreseeLives_114_ok Hy hE ih zfu x1 x2 i3 x4 (x5 + r4) (x6 + r10) x7 M10 h
          · replace h := zite_f h hb12
            refine zblq Hy.1 Hy.2.1 [(.iload 5, 2), (.aload 0, 1), (.getfield 500, 3), (.iconst 2, 1)] (S' := (108, [(0, .inr (.inr (some (5, 0)))), (1, .inl x1), (2, .inl x2), (3, .inr (.inr (some (2, i3)))), (4, .inl x4), (5, .inl (x5 + r4)), (6, .inl (x6 + r10)), (7, .inl x7), (8, .inl (((cg M 3 0 5) + x7) - (1 : Int32)))], [.inl (2 : Int32), .inr (.inr (some (3, 0))), .inl (x5 + r4)], zfC M10)) (b := true) (by decide +kernel) rfl rfl ?_
            obtain ⟨r11, M11, hc11, h⟩ := zbd_inv h
            refine zcallV Hy.1 (as := [.inl (2 : Int32)]) (st := [.inl (x5 + r4)]) (m3_setting_met (zOK_G Hy.1) Hy.2.1 hc11) cw5_44 m3_setting_in m3_setting_se (by decide) (zhlv Hy.2.1 rfl) rfl (zroom Hy.2.2 ⟨by decide, by decide⟩) rfl (by decide +kernel) ⟨Nat.zero_le _, Nat.zero_le _⟩ ?_
            refine zblq Hy.1 Hy.2.1 [(.iadd, 1), (.istore 5, 2)] (S' := (114, [(0, .inr (.inr (some (5, 0)))), (1, .inl x1), (2, .inl x2), (3, .inr (.inr (some (2, i3)))), (4, .inl x4), (5, .inl ((x5 + r4) + r11)), (6, .inl (x6 + r10)), (7, .inl x7), (8, .inl (((cg M 3 0 5) + x7) - (1 : Int32)))], [], zfC M11)) (b := true) (by decide +kernel) rfl rfl ?_
            refine zGo_keep [0, 1, 2, 3, 4, 5, 6, 7] rfl ?_
            exact m5_foreseeLives_114_ok Hy hE ih zfu x1 x2 i3 x4 ((x5 + r4) + r11) (x6 + r10) x7 M11 h
def m5_foreseeLives (x1 : Int32) (x2 : Int32) (M : cM) : Option cM := (if x1 < 0 then some M else (if x1 < (10 : Int32) then zbd (m3_of x1 M) (fun r1 M1 => m5_foreseeLives_33 zfu x1 x2 r1 (9 : Int32) (0 : Int32) (0 : Int32) (1 : Int32) M1) else some M))
theorem m5_foreseeLives_ok {X : zX} {G : zG} (Hy : zHy X G q5_foreseeLives zcC 3 65 (none)) {M' : cM} (hE : zEnd X G (none) (zfC M')) (x1 : Int32) (x2 : Int32) (M : cM) (h : m5_foreseeLives x1 x2 M = some M') : zGo (X, q5_foreseeLives, G) 0 0 (0, [(0, .inr (.inr (some (5, 0)))), (1, .inl x1), (2, .inl x2)], [], zfC M) := by
  unfold m5_foreseeLives at h
  refine zblq Hy.1 Hy.2.1 [(.iload 1, 1)] (S' := (1, [(0, .inr (.inr (some (5, 0)))), (1, .inl x1), (2, .inl x2)], [.inl x1], zfC M)) (b := true) (by decide +kernel) rfl rfl ?_
  refine zif_lt Hy.1 (off := 9) (tgt := 10) (by decide +kernel) (by decide) (fun hb17 => ?_) (fun hb17 => ?_)
  · replace h := zite_t h hb17
    cases h
    exact zret_v Hy.1 Hy.2.2 hE (by decide +kernel)
  · replace h := zite_f h hb17
    refine zblq Hy.1 Hy.2.1 [(.iload 1, 1), (.iconst 10, 2)] (S' := (7, [(0, .inr (.inr (some (5, 0)))), (1, .inl x1), (2, .inl x2)], [.inl (10 : Int32), .inl x1], zfC M)) (b := true) (by decide +kernel) rfl rfl ?_
    refine zic_lt Hy.1 (off := 4) (tgt := 11) (by decide +kernel) (by decide) (fun hb16 => ?_) (fun hb16 => ?_)
    · replace h := zite_t h hb16
      refine zblq Hy.1 Hy.2.1 [(.aload 0, 1), (.getfield 500, 3), (.iload 1, 1)] (S' := (16, [(0, .inr (.inr (some (5, 0)))), (1, .inl x1), (2, .inl x2)], [.inl x1, .inr (.inr (some (3, 0)))], zfC M)) (b := true) (by decide +kernel) rfl rfl ?_
      obtain ⟨r1, M1, hc1, h⟩ := zbd_inv h
      refine zcallV Hy.1 (as := [.inl x1]) (st := []) (m3_of_met (zOK_G Hy.1) Hy.2.1 hc1) cw5_40 m3_of_in m3_of_se (by decide) (zhlv Hy.2.1 rfl) rfl (zroom Hy.2.2 ⟨by decide, by decide⟩) rfl (by decide +kernel) ⟨Nat.zero_le _, Nat.zero_le _⟩ ?_
      refine zblq Hy.1 Hy.2.1 [(.astore 3, 1), (.iconst 9, 2), (.istore 4, 2), (.iconst 0, 1), (.istore 5, 2), (.iconst 0, 1), (.istore 6, 2), (.iconst 1, 1), (.istore 7, 2)] (S' := (33, [(0, .inr (.inr (some (5, 0)))), (1, .inl x1), (2, .inl x2), (3, .inr (.inr (some (2, r1)))), (4, .inl (9 : Int32)), (5, .inl (0 : Int32)), (6, .inl (0 : Int32)), (7, .inl (1 : Int32))], [], zfC M1)) (b := true) (by decide +kernel) rfl rfl ?_
      refine zGo_keep [0, 1, 2, 3, 4, 5, 6, 7] rfl ?_
      exact m5_foreseeLives_33_ok Hy hE zfu x1 x2 r1 (9 : Int32) (0 : Int32) (0 : Int32) (1 : Int32) M1 h
    · replace h := zite_f h hb16
      cases h
      exact zret_v Hy.1 Hy.2.2 hE (by decide +kernel)
theorem m5_foreseeLives_met {l : Launch} {G : zG} (hG : zGok G) (hcn : zgcn G = zcC) {x1 : Int32} {x2 : Int32} {M : cM} {M' : cM} (h : m5_foreseeLives x1 x2 M = some M') : zMet l G yX5_foreseeLives cX5_foreseeLives 9 (none) 3 65 [.inr (.inr (some (5, 0))), .inl x1, .inl x2] (zfC M) (none) (zfC M') :=
  zMet_of hG tbX5_ok rfl (by decide +kernel) (Nat.le_of_ble_eq_true rfl) (fun X _ Z hA hE => m5_foreseeLives_ok ⟨Z, hcn, hA⟩ hE x1 x2 M h)
