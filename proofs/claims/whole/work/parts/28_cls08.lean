abbrev q11_cells : ByteArray × Nat × String × zT := (cX11_cells, 3, RX11, tbX11)
def m11_cells (x1 : Int32) (x2 : Int32) (M : cM) : Option (Int64 × cM) := zbd (m3_knows x1 M) (fun r1 M1 => (if r1 = 0 then some ((-2 : Int64), M1) else zbd (m11_outside x2 (0 : Int32) (2 : Int32) M1) (fun r2 M2 => (if r2 = 0 then zbd (m1_mayBe x1 x2 M2) (fun r3 M3 => some (r3, M3)) else some ((-3 : Int64), M2)))))
theorem m11_cells_ok {X : zX} {G : zG} (Hy : zHy X G q11_cells zcC 4 98 (some .long)) {r : Int64} {M' : cM} (hE : zEnd X G (some (.inr (.inl r))) (zfC M')) (x1 : Int32) (x2 : Int32) (M : cM) (h : m11_cells x1 x2 M = some (r, M')) : zGo (X, q11_cells, G) 0 0 (0, [(0, .inr (.inr (some (11, 0)))), (1, .inl x1), (2, .inl x2)], [], zfC M) := by
  unfold m11_cells at h
  refine zblq Hy.1 Hy.2.1 [(.aload 0, 1), (.getfield 1100, 3), (.iload 1, 1)] (S' := (5, [(0, .inr (.inr (some (11, 0)))), (1, .inl x1), (2, .inl x2)], [.inl x1, .inr (.inr (some (3, 0)))], zfC M)) (b := true) (by decide +kernel) rfl rfl ?_
  obtain ⟨r1, M1, hc1, h⟩ := zbd_inv h
  refine zcallV Hy.1 (as := [.inl x1]) (st := []) (m3_knows_met (zOK_G Hy.1) Hy.2.1 hc1) cw11_74 m3_knows_in m3_knows_se (by decide) (zhlv Hy.2.1 rfl) rfl (zroom Hy.2.2 ⟨by decide, by decide⟩) rfl (by decide +kernel) ⟨Nat.zero_le _, Nat.zero_le _⟩ ?_
  refine zif_ne Hy.1 (off := 7) (tgt := 15) (by decide +kernel) (by decide) (fun hb5 => ?_) (fun hb5 => ?_)
  · replace h := zite_f h hb5
    refine zblq Hy.1 Hy.2.1 [(.iload 2, 1), (.iconst 0, 1), (.iconst 2, 1)] (S' := (18, [(0, .inr (.inr (some (11, 0)))), (1, .inl x1), (2, .inl x2)], [.inl (2 : Int32), .inl (0 : Int32), .inl x2], zfC M1)) (b := true) (by decide +kernel) rfl rfl ?_
    obtain ⟨r2, M2, hc2, h⟩ := zbd_inv h
    refine zcallS Hy.1 (as := [.inl x2, .inl (0 : Int32), .inl (2 : Int32)]) (st := []) (m11_outside_met (zOK_G Hy.1) Hy.2.1 hc2) cw11_66 m11_outside_in rfl (zroom Hy.2.2 ⟨by decide, by decide⟩) rfl (by decide +kernel) ⟨Nat.zero_le _, Nat.zero_le _⟩ ?_
    refine zif_eq Hy.1 (off := 7) (tgt := 28) (by decide +kernel) (by decide) (fun hb4 => ?_) (fun hb4 => ?_)
    · replace h := zite_t h hb4
      refine zblq Hy.1 Hy.2.1 [(.aload 0, 1), (.getfield 1104, 3), (.iload 1, 1), (.iload 2, 1)] (S' := (34, [(0, .inr (.inr (some (11, 0)))), (1, .inl x1), (2, .inl x2)], [.inl x2, .inl x1, .inr (.inr (some (1, 0)))], zfC M2)) (b := true) (by decide +kernel) rfl rfl ?_
      obtain ⟨r3, M3, hc3, h⟩ := zbd_inv h
      refine zcallV Hy.1 (as := [.inl x1, .inl x2]) (st := []) (m1_mayBe_met (zOK_G Hy.1) Hy.2.1 hc3) cw11_257 m1_mayBe_in m1_mayBe_se (by decide) (zhlv Hy.2.1 rfl) rfl (zroom Hy.2.2 ⟨by decide, by decide⟩) rfl (by decide +kernel) ⟨Nat.zero_le _, Nat.zero_le _⟩ ?_
      cases h
      exact zret_l Hy.1 Hy.2.2 hE (by decide +kernel)
    · replace h := zite_f h hb4
      refine zblq Hy.1 Hy.2.1 [(.goto_w (-3), 3)] (S' := (27, [(0, .inr (.inr (some (11, 0)))), (1, .inl x1), (2, .inl x2)], [.inr (.inl (-3 : Int64))], zfC M2)) (b := true) (by decide +kernel) rfl rfl ?_
      cases h
      exact zret_l Hy.1 Hy.2.2 hE (by decide +kernel)
  · replace h := zite_t h hb5
    refine zblq Hy.1 Hy.2.1 [(.goto_w (-2), 3)] (S' := (14, [(0, .inr (.inr (some (11, 0)))), (1, .inl x1), (2, .inl x2)], [.inr (.inl (-2 : Int64))], zfC M1)) (b := true) (by decide +kernel) rfl rfl ?_
    cases h
    exact zret_l Hy.1 Hy.2.2 hE (by decide +kernel)
theorem m11_cells_met {l : Launch} {G : zG} (hG : zGok G) (hcn : zgcn G = zcC) {x1 : Int32} {x2 : Int32} {M : cM} {r : Int64} {M' : cM} (h : m11_cells x1 x2 M = some (r, M')) : zMet l G yX11_cells cX11_cells 3 (some .long) 4 98 [.inr (.inr (some (11, 0))), .inl x1, .inl x2] (zfC M) (some (.inr (.inl r))) (zfC M') :=
  zMet_of hG tbX11_ok rfl (by decide +kernel) (Nat.le_of_ble_eq_true rfl) (fun X _ Z hA hE => m11_cells_ok ⟨Z, hcn, hA⟩ hE x1 x2 M h)
abbrev q2_partValue : ByteArray × Nat × String × zT := (cX2_partValue, 2, RX2, tbX2)
def m2_partValue (i0 : Nat) (x1 : Int32) (M : cM) : Option (Int32 × cM) := (if x1 < 0 then some ((0 : Int32), M) else zgd (Nat.blt i0 10 && (Nat.blt i0 10 && true)) ((if x1 < (8 : Int32) then zgd (Nat.blt i0 10 && ((Nat.blt i0 10 && zin x1 8) && true)) (some (cg M 317 i0 (nx x1), M)) else some ((0 : Int32), M))))
theorem m2_partValue_ok {X : zX} {G : zG} (Hy : zHy X G q2_partValue zcC 0 0 (some .int)) {r : Int32} {M' : cM} (hE : zEnd X G (some (.inl r)) (zfC M')) (i0 : Nat) (x1 : Int32) (M : cM) (h : m2_partValue i0 x1 M = some (r, M')) : zGo (X, q2_partValue, G) 0 0 (0, [(0, .inr (.inr (some (2, i0)))), (1, .inl x1)], [], zfC M) := by
  unfold m2_partValue at h
  refine zblq Hy.1 Hy.2.1 [(.iload 1, 1)] (S' := (1, [(0, .inr (.inr (some (2, i0)))), (1, .inl x1)], [.inl x1], zfC M)) (b := true) (by decide +kernel) rfl rfl ?_
  refine zif_lt Hy.1 (off := 12) (tgt := 13) (by decide +kernel) (by decide) (fun hb4 => ?_) (fun hb4 => ?_)
  · replace h := zite_t h hb4
    refine zblq Hy.1 Hy.2.1 [(.iconst 0, 1)] (S' := (14, [(0, .inr (.inr (some (2, i0)))), (1, .inl x1)], [.inl (0 : Int32)], zfC M)) (b := true) (by decide +kernel) rfl rfl ?_
    cases h
    exact zret_i Hy.1 Hy.2.2 hE (by decide +kernel)
  · replace h := zite_f h hb4
    obtain ⟨hg1, h⟩ := zgd_inv h
    refine zblq Hy.1 Hy.2.1 [(.iload 1, 1), (.aload 0, 1), (.getfield 217, 3), (.arraylength, 1)] (S' := (10, [(0, .inr (.inr (some (2, i0)))), (1, .inl x1)], [.inl (8 : Int32), .inl x1], zfC M)) (b := Nat.blt i0 10 && (Nat.blt i0 10 && true)) (by decide +kernel) rfl hg1 ?_
    refine zic_lt Hy.1 (off := 5) (tgt := 15) (by decide +kernel) (by decide) (fun hb3 => ?_) (fun hb3 => ?_)
    · replace h := zite_t h hb3
      obtain ⟨hg2, h⟩ := zgd_inv h
      refine zblq Hy.1 Hy.2.1 [(.aload 0, 1), (.getfield 217, 3), (.iload 1, 1), (.iaload, 1)] (S' := (21, [(0, .inr (.inr (some (2, i0)))), (1, .inl x1)], [.inl (cg M 317 i0 (nx x1))], zfC M)) (b := Nat.blt i0 10 && ((Nat.blt i0 10 && zin x1 8) && true)) (by decide +kernel) rfl hg2 ?_
      cases h
      exact zret_i Hy.1 Hy.2.2 hE (by decide +kernel)
    · replace h := zite_f h hb3
      refine zblq Hy.1 Hy.2.1 [(.iconst 0, 1)] (S' := (14, [(0, .inr (.inr (some (2, i0)))), (1, .inl x1)], [.inl (0 : Int32)], zfC M)) (b := true) (by decide +kernel) rfl rfl ?_
      cases h
      exact zret_i Hy.1 Hy.2.2 hE (by decide +kernel)
theorem m2_partValue_met {l : Launch} {G : zG} (hG : zGok G) (hcn : zgcn G = zcC) {i0 : Nat} {x1 : Int32} {M : cM} {r : Int32} {M' : cM} (h : m2_partValue i0 x1 M = some (r, M')) : zMet l G yX2_partValue cX2_partValue 2 (some .int) 0 0 [.inr (.inr (some (2, i0))), .inl x1] (zfC M) (some (.inl r)) (zfC M') :=
  zMet_of hG tbX2_ok rfl (by decide +kernel) (Nat.le_of_ble_eq_true rfl) (fun X _ Z hA hE => m2_partValue_ok ⟨Z, hcn, hA⟩ hE i0 x1 M h)
abbrev q6_sumOfParts : ByteArray × Nat × String × zT := (cX6_sumOfParts, 4, RX6, tbX6)
def m6_sumOfParts_4 : Nat → Nat → Int32 → Int32 → cM → Option (Int32 × cM)
  | 0, _, _, _, _ => none
  | n + 1, i1, x2, x3, M => (if (cg M 6 0 2) ≤ x3 then some (x2, M) else zgd (Nat.blt i1 10) (zbd (m2_partValue i1 x3 M) (fun r1 M1 => (m6_sumOfParts_4 n) i1 (x2 + r1) (x3 + (1 : Int32)) M1)))
theorem m6_sumOfParts_4_ok {X : zX} {G : zG} (Hy : zHy X G q6_sumOfParts zcC 1 21 (some .int)) {r : Int32} {M' : cM} (hE : zEnd X G (some (.inl r)) (zfC M')) : ∀ (n : Nat) (i1 : Nat) (x2 : Int32) (x3 : Int32) (M : cM), m6_sumOfParts_4 n i1 x2 x3 M = some (r, M') → zGo (X, q6_sumOfParts, G) 0 0 (4, [(0, .inr (.inr (some (6, 0)))), (1, .inr (.inr (some (2, i1)))), (2, .inl x2), (3, .inl x3)], [], zfC M) := by
  intro n
  induction n with
  | zero => intro i1 x2 x3 M h; cases h
  | succ n ih =>
    intro i1 x2 x3 M h
    unfold m6_sumOfParts_4 at h
    refine zblq Hy.1 Hy.2.1 [(.iload 3, 1), (.aload 0, 1), (.multianewarray 6 2, 3)] (S' := (9, [(0, .inr (.inr (some (6, 0)))), (1, .inr (.inr (some (2, i1)))), (2, .inl x2), (3, .inl x3)], [.inl (cg M 6 0 2), .inl x3], zfC M)) (b := true) (by decide +kernel) rfl rfl ?_
    refine zic_ge Hy.1 (off := 17) (tgt := 26) (by decide +kernel) (by decide) (fun hb3 => ?_) (fun hb3 => ?_)
    · replace h := zite_t h hb3
      refine zblq Hy.1 Hy.2.1 [(.iload 2, 1)] (S' := (27, [(0, .inr (.inr (some (6, 0)))), (1, .inr (.inr (some (2, i1)))), (2, .inl x2), (3, .inl x3)], [.inl x2], zfC M)) (b := true) (by decide +kernel) rfl rfl ?_
      cases h
      exact zret_i Hy.1 Hy.2.2 hE (by decide +kernel)
    · replace h := zite_f h hb3
      refine zblq Hy.1 Hy.2.1 [(.iload 2, 1), (.aload 1, 1), (.iload 3, 1)] (S' := (15, [(0, .inr (.inr (some (6, 0)))), (1, .inr (.inr (some (2, i1)))), (2, .inl x2), (3, .inl x3)], [.inl x3, .inr (.inr (some (2, i1))), .inl x2], zfC M)) (b := true) (by decide +kernel) rfl rfl ?_
      obtain ⟨hg2, h⟩ := zgd_inv h
      obtain ⟨r1, M1, hc1, h⟩ := zbd_inv h
      refine zcallV Hy.1 (as := [.inl x3]) (st := [.inl x2]) (m2_partValue_met (zOK_G Hy.1) Hy.2.1 hc1) cw6_51 m2_partValue_in m2_partValue_se (by decide) (zhlv Hy.2.1 hg2) rfl (zroom Hy.2.2 ⟨by decide, by decide⟩) rfl (by decide +kernel) ⟨Nat.zero_le _, Nat.zero_le _⟩ ?_
      refine zblq Hy.1 Hy.2.1 [(.iadd, 1), (.istore 2, 1), (.iinc 3 1, 3), (.ldc 4, 3)] (S' := (4, [(0, .inr (.inr (some (6, 0)))), (1, .inr (.inr (some (2, i1)))), (2, .inl (x2 + r1)), (3, .inl (x3 + (1 : Int32)))], [], zfC M1)) (b := true) (by decide +kernel) rfl rfl ?_
      refine zGo_keep [0, 1, 2, 3] rfl ?_
      exact ih i1 (x2 + r1) (x3 + (1 : Int32)) M1 h
def m6_sumOfParts (i1 : Nat) (M : cM) : Option (Int32 × cM) := m6_sumOfParts_4 zfu i1 (0 : Int32) (0 : Int32) M
theorem m6_sumOfParts_ok {X : zX} {G : zG} (Hy : zHy X G q6_sumOfParts zcC 1 21 (some .int)) {r : Int32} {M' : cM} (hE : zEnd X G (some (.inl r)) (zfC M')) (i1 : Nat) (M : cM) (h : m6_sumOfParts i1 M = some (r, M')) : zGo (X, q6_sumOfParts, G) 0 0 (0, [(0, .inr (.inr (some (6, 0)))), (1, .inr (.inr (some (2, i1))))], [], zfC M) := by
  unfold m6_sumOfParts at h
  refine zblq Hy.1 Hy.2.1 [(.iconst 0, 1), (.istore 2, 1), (.iconst 0, 1), (.istore 3, 1)] (S' := (4, [(0, .inr (.inr (some (6, 0)))), (1, .inr (.inr (some (2, i1)))), (2, .inl (0 : Int32)), (3, .inl (0 : Int32))], [], zfC M)) (b := true) (by decide +kernel) rfl rfl ?_
  refine zGo_keep [0, 1, 2, 3] rfl ?_
  exact m6_sumOfParts_4_ok Hy hE zfu i1 (0 : Int32) (0 : Int32) M h
theorem m6_sumOfParts_met {l : Launch} {G : zG} (hG : zGok G) (hcn : zgcn G = zcC) {i1 : Nat} {M : cM} {r : Int32} {M' : cM} (h : m6_sumOfParts i1 M = some (r, M')) : zMet l G yX6_sumOfParts cX6_sumOfParts 4 (some .int) 1 21 [.inr (.inr (some (6, 0))), .inr (.inr (some (2, i1)))] (zfC M) (some (.inl r)) (zfC M') :=
  zMet_of hG tbX6_ok rfl (by decide +kernel) (Nat.le_of_ble_eq_true rfl) (fun X _ Z hA hE => m6_sumOfParts_ok ⟨Z, hcn, hA⟩ hE i1 M h)
abbrev q2_takePart : ByteArray × Nat × String × zT := (cX2_takePart, 3, RX2, tbX2)
def m2_takePart (i0 : Nat) (x1 : Int32) (x2 : Int32) (M : cM) : Option cM := (if x1 < 0 then some M else zgd (Nat.blt i0 10 && (Nat.blt i0 10 && true)) ((if x1 < (8 : Int32) then zgd (Nat.blt i0 10 && ((Nat.blt i0 10 && true) && (Nat.blt i0 10 && ((Nat.blt i0 10 && zin x1 8) && true)))) (some (cs (cs M 2 i0 16 ((cg M 2 i0 16) ||| (zshl (1 : Int32) x1))) 317 i0 (nx x1) x2)) else some M)))
theorem m2_takePart_ok {X : zX} {G : zG} (Hy : zHy X G q2_takePart zcC 0 0 (none)) {M' : cM} (hE : zEnd X G (none) (zfC M')) (i0 : Nat) (x1 : Int32) (x2 : Int32) (M : cM) (h : m2_takePart i0 x1 x2 M = some M') : zGo (X, q2_takePart, G) 0 0 (0, [(0, .inr (.inr (some (2, i0)))), (1, .inl x1), (2, .inl x2)], [], zfC M) := by
  unfold m2_takePart at h
  refine zblq Hy.1 Hy.2.1 [(.iload 1, 1)] (S' := (1, [(0, .inr (.inr (some (2, i0)))), (1, .inl x1), (2, .inl x2)], [.inl x1], zfC M)) (b := true) (by decide +kernel) rfl rfl ?_
  refine zif_lt Hy.1 (off := 12) (tgt := 13) (by decide +kernel) (by decide) (fun hb4 => ?_) (fun hb4 => ?_)
  · replace h := zite_t h hb4
    cases h
    exact zret_v Hy.1 Hy.2.2 hE (by decide +kernel)
  · replace h := zite_f h hb4
    obtain ⟨hg1, h⟩ := zgd_inv h
    refine zblq Hy.1 Hy.2.1 [(.iload 1, 1), (.aload 0, 1), (.getfield 217, 3), (.arraylength, 1)] (S' := (10, [(0, .inr (.inr (some (2, i0)))), (1, .inl x1), (2, .inl x2)], [.inl (8 : Int32), .inl x1], zfC M)) (b := Nat.blt i0 10 && (Nat.blt i0 10 && true)) (by decide +kernel) rfl hg1 ?_
    refine zic_lt Hy.1 (off := 4) (tgt := 14) (by decide +kernel) (by decide) (fun hb3 => ?_) (fun hb3 => ?_)
    · replace h := zite_t h hb3
      obtain ⟨hg2, h⟩ := zgd_inv h
      refine zblq Hy.1 Hy.2.1 [(.aload 0, 1), (.dup, 1), (.multianewarray 2 16, 3), (.iconst 1, 1), (.iload 1, 1), (.ishl, 1), (.ior, 1), (.invokeinterface 2 16, 3), (.aload 0, 1), (.getfield 217, 3), (.iload 1, 1), (.iload 2, 1), (.iastore, 1)] (S' := (33, [(0, .inr (.inr (some (2, i0)))), (1, .inl x1), (2, .inl x2)], [], zfC (cs (cs M 2 i0 16 ((cg M 2 i0 16) ||| (zshl (1 : Int32) x1))) 317 i0 (nx x1) x2))) (b := Nat.blt i0 10 && ((Nat.blt i0 10 && true) && (Nat.blt i0 10 && ((Nat.blt i0 10 && zin x1 8) && true)))) (by decide +kernel) rfl hg2 ?_
      cases h
      exact zret_v Hy.1 Hy.2.2 hE (by decide +kernel)
    · replace h := zite_f h hb3
      cases h
      exact zret_v Hy.1 Hy.2.2 hE (by decide +kernel)
theorem m2_takePart_met {l : Launch} {G : zG} (hG : zGok G) (hcn : zgcn G = zcC) {i0 : Nat} {x1 : Int32} {x2 : Int32} {M : cM} {M' : cM} (h : m2_takePart i0 x1 x2 M = some M') : zMet l G yX2_takePart cX2_takePart 3 (none) 0 0 [.inr (.inr (some (2, i0))), .inl x1, .inl x2] (zfC M) (none) (zfC M') :=
  zMet_of hG tbX2_ok rfl (by decide +kernel) (Nat.le_of_ble_eq_true rfl) (fun X _ Z hA hE => m2_takePart_ok ⟨Z, hcn, hA⟩ hE i0 x1 x2 M h)
abbrev q6_take : ByteArray × Nat × String × zT := (cX6_take, 6, RX6, tbX6)
def m6_take_62 : Nat → Int32 → Int64 → Nat → Int32 → cM → Option (Int32 × cM)
  | 0, _, _, _, _, _ => none
  | n + 1, x1, x2, i4, x5, M => (if x1 ≤ x5 then zbd (m6_sumOfParts i4 M) (fun r2 M2 => zgd (znz (251 : Int32) && true) (some (cg (cs M2 6 0 3 (zrem r2 (251 : Int32))) 6 0 1, cs M2 6 0 3 (zrem r2 (251 : Int32))))) else zgd (Nat.blt i4 10) (zbv (m2_takePart i4 x5 (Int64.toInt32 ((zshrL x2 ((8 : Int32) * x5)) &&& (255 : Int64))) M) (fun M4 => (m6_take_62 n) x1 x2 i4 (x5 + (1 : Int32)) M4)))
theorem m6_take_62_ok {X : zX} {G : zG} (Hy : zHy X G q6_take zcC 2 44 (some .int)) {r : Int32} {M' : cM} (hE : zEnd X G (some (.inl r)) (zfC M')) : ∀ (n : Nat) (x1 : Int32) (x2 : Int64) (i4 : Nat) (x5 : Int32) (M : cM), m6_take_62 n x1 x2 i4 x5 M = some (r, M') → zGo (X, q6_take, G) 0 0 (62, [(0, .inr (.inr (some (6, 0)))), (1, .inl x1), (2, .inr (.inl x2)), (4, .inr (.inr (some (2, i4)))), (5, .inl x5)], [], zfC M) := by
  intro n
  induction n with
  | zero => intro x1 x2 i4 x5 M h; cases h
  | succ n ih =>
    intro x1 x2 i4 x5 M h
    unfold m6_take_62 at h
    refine zblq Hy.1 Hy.2.1 [(.iload 5, 2), (.iload 1, 1)] (S' := (65, [(0, .inr (.inr (some (6, 0)))), (1, .inl x1), (2, .inr (.inl x2)), (4, .inr (.inr (some (2, i4)))), (5, .inl x5)], [.inl x1, .inl x5], zfC M)) (b := true) (by decide +kernel) rfl rfl ?_
    refine zic_ge Hy.1 (off := 28) (tgt := 93) (by decide +kernel) (by decide) (fun hb6 => ?_) (fun hb6 => ?_)
    · replace h := zite_t h hb6
      refine zblq Hy.1 Hy.2.1 [(.aload 0, 1), (.aload 0, 1), (.aload 4, 2)] (S' := (97, [(0, .inr (.inr (some (6, 0)))), (1, .inl x1), (2, .inr (.inl x2)), (4, .inr (.inr (some (2, i4)))), (5, .inl x5)], [.inr (.inr (some (2, i4))), .inr (.inr (some (6, 0))), .inr (.inr (some (6, 0)))], zfC M)) (b := true) (by decide +kernel) rfl rfl ?_
      obtain ⟨r2, M2, hc2, h⟩ := zbd_inv h
      refine zcallV Hy.1 (as := [.inr (.inr (some (2, i4)))]) (st := [.inr (.inr (some (6, 0)))]) (m6_sumOfParts_met (zOK_G Hy.1) Hy.2.1 hc2) cw6_44 m6_sumOfParts_in m6_sumOfParts_se (by decide) (zhlv Hy.2.1 rfl) rfl (zroom Hy.2.2 ⟨by decide, by decide⟩) rfl (by decide +kernel) ⟨Nat.zero_le _, Nat.zero_le _⟩ ?_
      obtain ⟨hg3, h⟩ := zgd_inv h
      refine zblq Hy.1 Hy.2.1 [(.iconst 251, 3), (.irem, 1), (.invokeinterface 6 3, 3), (.aload 0, 1), (.multianewarray 6 1, 3)] (S' := (111, [(0, .inr (.inr (some (6, 0)))), (1, .inl x1), (2, .inr (.inl x2)), (4, .inr (.inr (some (2, i4)))), (5, .inl x5)], [.inl (cg (cs M2 6 0 3 (zrem r2 (251 : Int32))) 6 0 1)], zfC (cs M2 6 0 3 (zrem r2 (251 : Int32))))) (b := znz (251 : Int32) && true) (by decide +kernel) rfl hg3 ?_
      cases h
      exact zret_i Hy.1 Hy.2.2 hE (by decide +kernel)
    · replace h := zite_f h hb6
      refine zblq Hy.1 Hy.2.1 [(.aload 4, 2), (.iload 5, 2), (.lload 2, 1), (.iconst 8, 2), (.iload 5, 2), (.imul, 1), (.lshr, 1), (.goto_w 255, 3), (.land, 1), (.l2i, 1)] (S' := (84, [(0, .inr (.inr (some (6, 0)))), (1, .inl x1), (2, .inr (.inl x2)), (4, .inr (.inr (some (2, i4)))), (5, .inl x5)], [.inl (Int64.toInt32 ((zshrL x2 ((8 : Int32) * x5)) &&& (255 : Int64))), .inl x5, .inr (.inr (some (2, i4)))], zfC M)) (b := true) (by decide +kernel) rfl rfl ?_
      obtain ⟨hg5, h⟩ := zgd_inv h
      obtain ⟨M4, hc4, h⟩ := zbv_inv h
      refine zcallV Hy.1 (as := [.inl x5, .inl (Int64.toInt32 ((zshrL x2 ((8 : Int32) * x5)) &&& (255 : Int64)))]) (st := []) (m2_takePart_met (zOK_G Hy.1) Hy.2.1 hc4) cw6_40 m2_takePart_in m2_takePart_se (by decide) (zhlv Hy.2.1 hg5) rfl (zroom Hy.2.2 ⟨by decide, by decide⟩) rfl (by decide +kernel) ⟨Nat.zero_le _, Nat.zero_le _⟩ ?_
      refine zblq Hy.1 Hy.2.1 [(.iinc 5 1, 3), (.ldc 62, 3)] (S' := (62, [(0, .inr (.inr (some (6, 0)))), (1, .inl x1), (2, .inr (.inl x2)), (4, .inr (.inr (some (2, i4)))), (5, .inl (x5 + (1 : Int32)))], [], zfC M4)) (b := true) (by decide +kernel) rfl rfl ?_
      refine zGo_keep [0, 1, 2, 4, 5] rfl ?_
      exact ih x1 x2 i4 (x5 + (1 : Int32)) M4 h
def m6_take_18 : Nat → Int32 → Int64 → Int32 → cM → Option (Int32 × cM)
  | 0, _, _, _, _ => none
  | n + 1, x1, x2, x4, M => (if (cg M 3 0 4) ≤ x4 then zbd (m3_of (0 : Int32) M) (fun r1 M1 => m6_take_62 zfu x1 x2 r1 (0 : Int32) M1) else zbd (m3_of x4 M) (fun r7 M7 => zgd ((Nat.blt r7 10 && true) && true) ((m6_take_18 n) x1 x2 (x4 + (1 : Int32)) (cs M7 2 r7 16 (0 : Int32)))))
theorem m6_take_18_ok {X : zX} {G : zG} (Hy : zHy X G q6_take zcC 2 44 (some .int)) {r : Int32} {M' : cM} (hE : zEnd X G (some (.inl r)) (zfC M')) : ∀ (n : Nat) (x1 : Int32) (x2 : Int64) (x4 : Int32) (M : cM), m6_take_18 n x1 x2 x4 M = some (r, M') → zGo (X, q6_take, G) 0 0 (18, [(0, .inr (.inr (some (6, 0)))), (1, .inl x1), (2, .inr (.inl x2)), (4, .inl x4)], [], zfC M) := by
  intro n
  induction n with
  | zero => intro x1 x2 x4 M h; cases h
  | succ n ih =>
    intro x1 x2 x4 M h
    unfold m6_take_18 at h
    refine zblq Hy.1 Hy.2.1 [(.iload 4, 2), (.aload 0, 1), (.getfield 600, 3), (.multianewarray 3 4, 3)] (S' := (27, [(0, .inr (.inr (some (6, 0)))), (1, .inl x1), (2, .inr (.inl x2)), (4, .inl x4)], [.inl (cg M 3 0 4), .inl x4], zfC M)) (b := true) (by decide +kernel) rfl rfl ?_
    refine zic_ge Hy.1 (off := 22) (tgt := 49) (by decide +kernel) (by decide) (fun hb9 => ?_) (fun hb9 => ?_)
    · replace h := zite_t h hb9
      refine zblq Hy.1 Hy.2.1 [(.aload 0, 1), (.getfield 600, 3), (.iconst 0, 1)] (S' := (54, [(0, .inr (.inr (some (6, 0)))), (1, .inl x1), (2, .inr (.inl x2)), (4, .inl x4)], [.inl (0 : Int32), .inr (.inr (some (3, 0)))], zfC M)) (b := true) (by decide +kernel) rfl rfl ?_
      obtain ⟨r1, M1, hc1, h⟩ := zbd_inv h
      refine zcallV Hy.1 (as := [.inl (0 : Int32)]) (st := []) (m3_of_met (zOK_G Hy.1) Hy.2.1 hc1) cw6_29 m3_of_in m3_of_se (by decide) (zhlv Hy.2.1 rfl) rfl (zroom Hy.2.2 ⟨by decide, by decide⟩) rfl (by decide +kernel) ⟨Nat.zero_le _, Nat.zero_le _⟩ ?_
      refine zblq Hy.1 Hy.2.1 [(.astore 4, 2), (.iconst 0, 1), (.istore 5, 2)] (S' := (62, [(0, .inr (.inr (some (6, 0)))), (1, .inl x1), (2, .inr (.inl x2)), (4, .inr (.inr (some (2, r1)))), (5, .inl (0 : Int32))], [], zfC M1)) (b := true) (by decide +kernel) rfl rfl ?_
      refine zGo_keep [0, 1, 2, 4, 5] rfl ?_
      exact m6_take_62_ok Hy hE zfu x1 x2 r1 (0 : Int32) M1 h
    · replace h := zite_f h hb9
      refine zblq Hy.1 Hy.2.1 [(.aload 0, 1), (.getfield 600, 3), (.iload 4, 2)] (S' := (36, [(0, .inr (.inr (some (6, 0)))), (1, .inl x1), (2, .inr (.inl x2)), (4, .inl x4)], [.inl x4, .inr (.inr (some (3, 0)))], zfC M)) (b := true) (by decide +kernel) rfl rfl ?_
      obtain ⟨r7, M7, hc7, h⟩ := zbd_inv h
      refine zcallV Hy.1 (as := [.inl x4]) (st := []) (m3_of_met (zOK_G Hy.1) Hy.2.1 hc7) cw6_29 m3_of_in m3_of_se (by decide) (zhlv Hy.2.1 rfl) rfl (zroom Hy.2.2 ⟨by decide, by decide⟩) rfl (by decide +kernel) ⟨Nat.zero_le _, Nat.zero_le _⟩ ?_
      obtain ⟨hg8, h⟩ := zgd_inv h
      refine zblq Hy.1 Hy.2.1 [(.iconst 0, 1), (.invokeinterface 2 16, 3), (.iinc 4 1, 3), (.ldc 18, 3)] (S' := (18, [(0, .inr (.inr (some (6, 0)))), (1, .inl x1), (2, .inr (.inl x2)), (4, .inl (x4 + (1 : Int32)))], [], zfC (cs M7 2 r7 16 (0 : Int32)))) (b := (Nat.blt r7 10 && true) && true) (by decide +kernel) rfl hg8 ?_
      refine zGo_keep [0, 1, 2, 4] rfl ?_
      exact ih x1 x2 (x4 + (1 : Int32)) (cs M7 2 r7 16 (0 : Int32)) h
def m6_take (x1 : Int32) (x2 : Int64) (M : cM) : Option (Int32 × cM) := m6_take_18 zfu x1 x2 (0 : Int32) (cs (cs M 6 0 2 x1) 6 0 1 ((cg (cs M 6 0 2 x1) 6 0 1) + (1 : Int32)))
theorem m6_take_ok {X : zX} {G : zG} (Hy : zHy X G q6_take zcC 2 44 (some .int)) {r : Int32} {M' : cM} (hE : zEnd X G (some (.inl r)) (zfC M')) (x1 : Int32) (x2 : Int64) (M : cM) (h : m6_take x1 x2 M = some (r, M')) : zGo (X, q6_take, G) 0 0 (0, [(0, .inr (.inr (some (6, 0)))), (1, .inl x1), (2, .inr (.inl x2))], [], zfC M) := by
  unfold m6_take at h
  refine zblq Hy.1 Hy.2.1 [(.aload 0, 1), (.iload 1, 1), (.invokeinterface 6 2, 3), (.aload 0, 1), (.dup, 1), (.multianewarray 6 1, 3), (.iconst 1, 1), (.iadd, 1), (.invokeinterface 6 1, 3), (.iconst 0, 1), (.istore 4, 2)] (S' := (18, [(0, .inr (.inr (some (6, 0)))), (1, .inl x1), (2, .inr (.inl x2)), (4, .inl (0 : Int32))], [], zfC (cs (cs M 6 0 2 x1) 6 0 1 ((cg (cs M 6 0 2 x1) 6 0 1) + (1 : Int32))))) (b := true) (by decide +kernel) rfl rfl ?_
  refine zGo_keep [0, 1, 2, 4] rfl ?_
  exact m6_take_18_ok Hy hE zfu x1 x2 (0 : Int32) (cs (cs M 6 0 2 x1) 6 0 1 ((cg (cs M 6 0 2 x1) 6 0 1) + (1 : Int32))) h
theorem m6_take_met {l : Launch} {G : zG} (hG : zGok G) (hcn : zgcn G = zcC) {x1 : Int32} {x2 : Int64} {M : cM} {r : Int32} {M' : cM} (h : m6_take x1 x2 M = some (r, M')) : zMet l G yX6_take cX6_take 6 (some .int) 2 44 [.inr (.inr (some (6, 0))), .inl x1, .inr (.inl x2)] (zfC M) (some (.inl r)) (zfC M') :=
  zMet_of hG tbX6_ok rfl (by decide +kernel) (Nat.le_of_ble_eq_true rfl) (fun X _ Z hA hE => m6_take_ok ⟨Z, hcn, hA⟩ hE x1 x2 M h)
abbrev q11_program : ByteArray × Nat × String × zT := (cX11_program, 4, RX11, tbX11)
def m11_program (x1 : Int32) (x2 : Int64) (M : cM) : Option (Int32 × cM) := zbd (m11_outside x1 (1 : Int32) (8 : Int32) M) (fun r1 M1 => (if r1 = 0 then (if (cg M1 3 0 4) = 0 then some ((-4 : Int32), M1) else zbd (m6_take x1 x2 M1) (fun r2 M2 => some (r2, M2))) else some ((-3 : Int32), M1)))
theorem m11_program_ok {X : zX} {G : zG} (Hy : zHy X G q11_program zcC 3 69 (some .int)) {r : Int32} {M' : cM} (hE : zEnd X G (some (.inl r)) (zfC M')) (x1 : Int32) (x2 : Int64) (M : cM) (h : m11_program x1 x2 M = some (r, M')) : zGo (X, q11_program, G) 0 0 (0, [(0, .inr (.inr (some (11, 0)))), (1, .inl x1), (2, .inr (.inl x2))], [], zfC M) := by
  unfold m11_program at h
  refine zblq Hy.1 Hy.2.1 [(.iload 1, 1), (.iconst 1, 1), (.iconst 8, 2)] (S' := (4, [(0, .inr (.inr (some (11, 0)))), (1, .inl x1), (2, .inr (.inl x2))], [.inl (8 : Int32), .inl (1 : Int32), .inl x1], zfC M)) (b := true) (by decide +kernel) rfl rfl ?_
  obtain ⟨r1, M1, hc1, h⟩ := zbd_inv h
  refine zcallS Hy.1 (as := [.inl x1, .inl (1 : Int32), .inl (8 : Int32)]) (st := []) (m11_outside_met (zOK_G Hy.1) Hy.2.1 hc1) cw11_66 m11_outside_in rfl (zroom Hy.2.2 ⟨by decide, by decide⟩) rfl (by decide +kernel) ⟨Nat.zero_le _, Nat.zero_le _⟩ ?_
  refine zif_eq Hy.1 (off := 6) (tgt := 13) (by decide +kernel) (by decide) (fun hb4 => ?_) (fun hb4 => ?_)
  · replace h := zite_t h hb4
    refine zblq Hy.1 Hy.2.1 [(.aload 0, 1), (.getfield 1100, 3), (.multianewarray 3 4, 3)] (S' := (20, [(0, .inr (.inr (some (11, 0)))), (1, .inl x1), (2, .inr (.inl x2))], [.inl (cg M1 3 0 4)], zfC M1)) (b := true) (by decide +kernel) rfl rfl ?_
    refine zif_ne Hy.1 (off := 6) (tgt := 26) (by decide +kernel) (by decide) (fun hb3 => ?_) (fun hb3 => ?_)
    · replace h := zite_f h hb3
      refine zblq Hy.1 Hy.2.1 [(.aload 0, 1), (.getfield 1105, 3), (.iload 1, 1), (.lload 2, 1)] (S' := (32, [(0, .inr (.inr (some (11, 0)))), (1, .inl x1), (2, .inr (.inl x2))], [.inr (.inl x2), .inl x1, .inr (.inr (some (6, 0)))], zfC M1)) (b := true) (by decide +kernel) rfl rfl ?_
      obtain ⟨r2, M2, hc2, h⟩ := zbd_inv h
      refine zcallV Hy.1 (as := [.inl x1, .inr (.inl x2)]) (st := []) (m6_take_met (zOK_G Hy.1) Hy.2.1 hc2) cw11_262 m6_take_in m6_take_se (by decide) (zhlv Hy.2.1 rfl) rfl (zroom Hy.2.2 ⟨by decide, by decide⟩) rfl (by decide +kernel) ⟨Nat.zero_le _, Nat.zero_le _⟩ ?_
      cases h
      exact zret_i Hy.1 Hy.2.2 hE (by decide +kernel)
    · replace h := zite_t h hb3
      refine zblq Hy.1 Hy.2.1 [(.iconst (-4), 2)] (S' := (25, [(0, .inr (.inr (some (11, 0)))), (1, .inl x1), (2, .inr (.inl x2))], [.inl (-4 : Int32)], zfC M1)) (b := true) (by decide +kernel) rfl rfl ?_
      cases h
      exact zret_i Hy.1 Hy.2.2 hE (by decide +kernel)
  · replace h := zite_f h hb4
    refine zblq Hy.1 Hy.2.1 [(.iconst (-3), 2)] (S' := (12, [(0, .inr (.inr (some (11, 0)))), (1, .inl x1), (2, .inr (.inl x2))], [.inl (-3 : Int32)], zfC M1)) (b := true) (by decide +kernel) rfl rfl ?_
    cases h
    exact zret_i Hy.1 Hy.2.2 hE (by decide +kernel)
theorem m11_program_met {l : Launch} {G : zG} (hG : zGok G) (hcn : zgcn G = zcC) {x1 : Int32} {x2 : Int64} {M : cM} {r : Int32} {M' : cM} (h : m11_program x1 x2 M = some (r, M')) : zMet l G yX11_program cX11_program 4 (some .int) 3 69 [.inr (.inr (some (11, 0))), .inl x1, .inr (.inl x2)] (zfC M) (some (.inl r)) (zfC M') :=
  zMet_of hG tbX11_ok rfl (by decide +kernel) (Nat.le_of_ble_eq_true rfl) (fun X _ Z hA hE => m11_program_ok ⟨Z, hcn, hA⟩ hE x1 x2 M h)
abbrev q6_aheadOf : ByteArray × Nat × String × zT := (cX6_aheadOf, 2, RX6, tbX6)
def m6_aheadOf (x1 : Int32) (M : cM) : Option (Int32 × cM) := (if x1 < 0 then some ((0 : Int32), M) else (if (10 : Int32) ≤ x1 then some ((0 : Int32), M) else zgd (zin x1 10 && true) (some (cg M 704 0 (nx x1), M))))
theorem m6_aheadOf_ok {X : zX} {G : zG} (Hy : zHy X G q6_aheadOf zcC 0 0 (some .int)) {r : Int32} {M' : cM} (hE : zEnd X G (some (.inl r)) (zfC M')) (x1 : Int32) (M : cM) (h : m6_aheadOf x1 M = some (r, M')) : zGo (X, q6_aheadOf, G) 0 0 (0, [(0, .inr (.inr (some (6, 0)))), (1, .inl x1)], [], zfC M) := by
  unfold m6_aheadOf at h
  refine zblq Hy.1 Hy.2.1 [(.iload 1, 1)] (S' := (1, [(0, .inr (.inr (some (6, 0)))), (1, .inl x1)], [.inl x1], zfC M)) (b := true) (by decide +kernel) rfl rfl ?_
  refine zif_lt Hy.1 (off := 18) (tgt := 19) (by decide +kernel) (by decide) (fun hb3 => ?_) (fun hb3 => ?_)
  · replace h := zite_t h hb3
    refine zblq Hy.1 Hy.2.1 [(.iconst 0, 1)] (S' := (20, [(0, .inr (.inr (some (6, 0)))), (1, .inl x1)], [.inl (0 : Int32)], zfC M)) (b := true) (by decide +kernel) rfl rfl ?_
    cases h
    exact zret_i Hy.1 Hy.2.2 hE (by decide +kernel)
  · replace h := zite_f h hb3
    refine zblq Hy.1 Hy.2.1 [(.iload 1, 1), (.iconst 10, 2)] (S' := (7, [(0, .inr (.inr (some (6, 0)))), (1, .inl x1)], [.inl (10 : Int32), .inl x1], zfC M)) (b := true) (by decide +kernel) rfl rfl ?_
    refine zic_ge Hy.1 (off := 12) (tgt := 19) (by decide +kernel) (by decide) (fun hb2 => ?_) (fun hb2 => ?_)
    · replace h := zite_t h hb2
      refine zblq Hy.1 Hy.2.1 [(.iconst 0, 1)] (S' := (20, [(0, .inr (.inr (some (6, 0)))), (1, .inl x1)], [.inl (0 : Int32)], zfC M)) (b := true) (by decide +kernel) rfl rfl ?_
      cases h
      exact zret_i Hy.1 Hy.2.2 hE (by decide +kernel)
    · replace h := zite_f h hb2
      obtain ⟨hg1, h⟩ := zgd_inv h
      refine zblq Hy.1 Hy.2.1 [(.aload 0, 1), (.getfield 604, 3), (.iload 1, 1), (.iaload, 1), (.ldc 20, 3)] (S' := (20, [(0, .inr (.inr (some (6, 0)))), (1, .inl x1)], [.inl (cg M 704 0 (nx x1))], zfC M)) (b := zin x1 10 && true) (by decide +kernel) rfl hg1 ?_
      cases h
      exact zret_i Hy.1 Hy.2.2 hE (by decide +kernel)
theorem m6_aheadOf_met {l : Launch} {G : zG} (hG : zGok G) (hcn : zgcn G = zcC) {x1 : Int32} {M : cM} {r : Int32} {M' : cM} (h : m6_aheadOf x1 M = some (r, M')) : zMet l G yX6_aheadOf cX6_aheadOf 2 (some .int) 0 0 [.inr (.inr (some (6, 0))), .inl x1] (zfC M) (some (.inl r)) (zfC M') :=
  zMet_of hG tbX6_ok rfl (by decide +kernel) (Nat.le_of_ble_eq_true rfl) (fun X _ Z hA hE => m6_aheadOf_ok ⟨Z, hcn, hA⟩ hE x1 M h)
abbrev q6_give : ByteArray × Nat × String × zT := (cX6_give, 4, RX6, tbX6)
def m6_give (i1 : Nat) (i2 : Nat) (x3 : Int32) (M : cM) : Option cM := zgd (Nat.blt i1 10) (zbd (m2_partValue i1 x3 M) (fun r1 M1 => zgd (Nat.blt i2 10) (zbv (m2_takePart i2 x3 r1 M1) (fun M3 => zbd (m3_setting (3 : Int32) M3) (fun r5 M5 => zgd (Nat.blt i2 10) (zbv (m2_spend i2 r5 M5) (fun M6 => zbd (m3_setting (2 : Int32) M6) (fun r8 M8 => zgd (Nat.blt i1 10) (zbv (m2_spend i1 r8 M8) (fun M9 => some M9))))))))))
theorem m6_give_ok {X : zX} {G : zG} (Hy : zHy X G q6_give zcC 2 42 (none)) {M' : cM} (hE : zEnd X G (none) (zfC M')) (i1 : Nat) (i2 : Nat) (x3 : Int32) (M : cM) (h : m6_give i1 i2 x3 M = some M') : zGo (X, q6_give, G) 0 0 (0, [(0, .inr (.inr (some (6, 0)))), (1, .inr (.inr (some (2, i1)))), (2, .inr (.inr (some (2, i2)))), (3, .inl x3)], [], zfC M) := by
  unfold m6_give at h
  refine zblq Hy.1 Hy.2.1 [(.aload 2, 1), (.iload 3, 1), (.aload 1, 1), (.iload 3, 1)] (S' := (4, [(0, .inr (.inr (some (6, 0)))), (1, .inr (.inr (some (2, i1)))), (2, .inr (.inr (some (2, i2)))), (3, .inl x3)], [.inl x3, .inr (.inr (some (2, i1))), .inl x3, .inr (.inr (some (2, i2)))], zfC M)) (b := true) (by decide +kernel) rfl rfl ?_
  obtain ⟨hg2, h⟩ := zgd_inv h
  obtain ⟨r1, M1, hc1, h⟩ := zbd_inv h
  refine zcallV Hy.1 (as := [.inl x3]) (st := [.inl x3, .inr (.inr (some (2, i2)))]) (m2_partValue_met (zOK_G Hy.1) Hy.2.1 hc1) cw6_51 m2_partValue_in m2_partValue_se (by decide) (zhlv Hy.2.1 hg2) rfl (zroom Hy.2.2 ⟨by decide, by decide⟩) rfl (by decide +kernel) ⟨Nat.zero_le _, Nat.zero_le _⟩ ?_
  obtain ⟨hg4, h⟩ := zgd_inv h
  obtain ⟨M3, hc3, h⟩ := zbv_inv h
  refine zcallV Hy.1 (as := [.inl x3, .inl r1]) (st := []) (m2_takePart_met (zOK_G Hy.1) Hy.2.1 hc3) cw6_40 m2_takePart_in m2_takePart_se (by decide) (zhlv Hy.2.1 hg4) rfl (zroom Hy.2.2 ⟨by decide, by decide⟩) rfl (by decide +kernel) ⟨Nat.zero_le _, Nat.zero_le _⟩ ?_
  refine zblq Hy.1 Hy.2.1 [(.aload 2, 1), (.aload 0, 1), (.getfield 600, 3), (.iconst 3, 1)] (S' := (16, [(0, .inr (.inr (some (6, 0)))), (1, .inr (.inr (some (2, i1)))), (2, .inr (.inr (some (2, i2)))), (3, .inl x3)], [.inl (3 : Int32), .inr (.inr (some (3, 0))), .inr (.inr (some (2, i2)))], zfC M3)) (b := true) (by decide +kernel) rfl rfl ?_
  obtain ⟨r5, M5, hc5, h⟩ := zbd_inv h
  refine zcallV Hy.1 (as := [.inl (3 : Int32)]) (st := [.inr (.inr (some (2, i2)))]) (m3_setting_met (zOK_G Hy.1) Hy.2.1 hc5) cw6_73 m3_setting_in m3_setting_se (by decide) (zhlv Hy.2.1 rfl) rfl (zroom Hy.2.2 ⟨by decide, by decide⟩) rfl (by decide +kernel) ⟨Nat.zero_le _, Nat.zero_le _⟩ ?_
  obtain ⟨hg7, h⟩ := zgd_inv h
  obtain ⟨M6, hc6, h⟩ := zbv_inv h
  refine zcallV Hy.1 (as := [.inl r5]) (st := []) (m2_spend_met (zOK_G Hy.1) Hy.2.1 hc6) cw6_76 m2_spend_in m2_spend_se (by decide) (zhlv Hy.2.1 hg7) rfl (zroom Hy.2.2 ⟨by decide, by decide⟩) rfl (by decide +kernel) ⟨Nat.zero_le _, Nat.zero_le _⟩ ?_
  refine zblq Hy.1 Hy.2.1 [(.aload 1, 1), (.aload 0, 1), (.getfield 600, 3), (.iconst 2, 1)] (S' := (28, [(0, .inr (.inr (some (6, 0)))), (1, .inr (.inr (some (2, i1)))), (2, .inr (.inr (some (2, i2)))), (3, .inl x3)], [.inl (2 : Int32), .inr (.inr (some (3, 0))), .inr (.inr (some (2, i1)))], zfC M6)) (b := true) (by decide +kernel) rfl rfl ?_
  obtain ⟨r8, M8, hc8, h⟩ := zbd_inv h
  refine zcallV Hy.1 (as := [.inl (2 : Int32)]) (st := [.inr (.inr (some (2, i1)))]) (m3_setting_met (zOK_G Hy.1) Hy.2.1 hc8) cw6_73 m3_setting_in m3_setting_se (by decide) (zhlv Hy.2.1 rfl) rfl (zroom Hy.2.2 ⟨by decide, by decide⟩) rfl (by decide +kernel) ⟨Nat.zero_le _, Nat.zero_le _⟩ ?_
  obtain ⟨hg10, h⟩ := zgd_inv h
  obtain ⟨M9, hc9, h⟩ := zbv_inv h
  refine zcallV Hy.1 (as := [.inl r8]) (st := []) (m2_spend_met (zOK_G Hy.1) Hy.2.1 hc9) cw6_76 m2_spend_in m2_spend_se (by decide) (zhlv Hy.2.1 hg10) rfl (zroom Hy.2.2 ⟨by decide, by decide⟩) rfl (by decide +kernel) ⟨Nat.zero_le _, Nat.zero_le _⟩ ?_
  cases h
  exact zret_v Hy.1 Hy.2.2 hE (by decide +kernel)
theorem m6_give_met {l : Launch} {G : zG} (hG : zGok G) (hcn : zgcn G = zcC) {i1 : Nat} {i2 : Nat} {x3 : Int32} {M : cM} {M' : cM} (h : m6_give i1 i2 x3 M = some M') : zMet l G yX6_give cX6_give 4 (none) 2 42 [.inr (.inr (some (6, 0))), .inr (.inr (some (2, i1))), .inr (.inr (some (2, i2))), .inl x3] (zfC M) (none) (zfC M') :=
  zMet_of hG tbX6_ok rfl (by decide +kernel) (Nat.le_of_ble_eq_true rfl) (fun X _ Z hA hE => m6_give_ok ⟨Z, hcn, hA⟩ hE i1 i2 x3 M h)
abbrev q6_getsPart : ByteArray × Nat × String × zT := (cX6_getsPart, 6, RX6, tbX6)
def m6_getsPart_115 (k17 : Int32 → Int32 → Int32 → cM → Option (Int32 × cM)) (x1 : Int32) (x3 : Int32) (x4 : Int32) (M : cM) : Option (Int32 × cM) := k17 x1 x3 (x4 + (1 : Int32)) M
theorem m6_getsPart_115_ok {X : zX} {G : zG} (Hy : zHy X G q6_getsPart zcC 3 65 (some .boolean)) {r : Int32} {M' : cM} (hE : zEnd X G (some (.inl r)) (zfC M')) {k17 : Int32 → Int32 → Int32 → cM → Option (Int32 × cM)} (hk17 : ∀ (x1 : Int32) (x3 : Int32) (x4 : Int32) (M : cM), k17 x1 x3 x4 M = some (r, M') → zGo (X, q6_getsPart, G) 0 0 (17, [(0, .inr (.inr (some (6, 0)))), (1, .inl x1), (3, .inl x3), (4, .inl x4)], [], zfC M)) (x1 : Int32) (x3 : Int32) (x4 : Int32) (M : cM) (h : m6_getsPart_115 k17 x1 x3 x4 M = some (r, M')) : zGo (X, q6_getsPart, G) 0 0 (115, [(0, .inr (.inr (some (6, 0)))), (1, .inl x1), (3, .inl x3), (4, .inl x4)], [], zfC M) := by
  unfold m6_getsPart_115 at h
  refine zblq Hy.1 Hy.2.1 [(.iinc 4 1, 3), (.ldc 17, 3)] (S' := (17, [(0, .inr (.inr (some (6, 0)))), (1, .inl x1), (3, .inl x3), (4, .inl (x4 + (1 : Int32)))], [], zfC M)) (b := true) (by decide +kernel) rfl rfl ?_
  refine zGo_keep [0, 1, 3, 4] rfl ?_
  exact hk17 x1 x3 (x4 + (1 : Int32)) M h
def m6_getsPart_109 (k17 : Int32 → Int32 → Int32 → cM → Option (Int32 × cM)) (k46 : Int32 → Int32 → Int32 → Int32 → cM → Option (Int32 × cM)) (x1 : Int32) (x3 : Int32) (x4 : Int32) (x5 : Int32) (M : cM) : Option (Int32 × cM) := k46 x1 x3 x4 (x5 + (1 : Int32)) M
theorem m6_getsPart_109_ok {X : zX} {G : zG} (Hy : zHy X G q6_getsPart zcC 3 65 (some .boolean)) {r : Int32} {M' : cM} (hE : zEnd X G (some (.inl r)) (zfC M')) {k17 : Int32 → Int32 → Int32 → cM → Option (Int32 × cM)} (hk17 : ∀ (x1 : Int32) (x3 : Int32) (x4 : Int32) (M : cM), k17 x1 x3 x4 M = some (r, M') → zGo (X, q6_getsPart, G) 0 0 (17, [(0, .inr (.inr (some (6, 0)))), (1, .inl x1), (3, .inl x3), (4, .inl x4)], [], zfC M)) {k46 : Int32 → Int32 → Int32 → Int32 → cM → Option (Int32 × cM)} (hk46 : ∀ (x1 : Int32) (x3 : Int32) (x4 : Int32) (x5 : Int32) (M : cM), k46 x1 x3 x4 x5 M = some (r, M') → zGo (X, q6_getsPart, G) 0 0 (46, [(0, .inr (.inr (some (6, 0)))), (1, .inl x1), (3, .inl x3), (4, .inl x4), (5, .inl x5)], [], zfC M)) (x1 : Int32) (x3 : Int32) (x4 : Int32) (x5 : Int32) (M : cM) (h : m6_getsPart_109 k17 k46 x1 x3 x4 x5 M = some (r, M')) : zGo (X, q6_getsPart, G) 0 0 (109, [(0, .inr (.inr (some (6, 0)))), (1, .inl x1), (3, .inl x3), (4, .inl x4), (5, .inl x5)], [], zfC M) := by
  unfold m6_getsPart_109 at h
  refine zblq Hy.1 Hy.2.1 [(.iinc 5 1, 3), (.ldc 46, 3)] (S' := (46, [(0, .inr (.inr (some (6, 0)))), (1, .inl x1), (3, .inl x3), (4, .inl x4), (5, .inl (x5 + (1 : Int32)))], [], zfC M)) (b := true) (by decide +kernel) rfl rfl ?_
  refine zGo_keep [0, 1, 3, 4, 5] rfl ?_
  exact hk46 x1 x3 x4 (x5 + (1 : Int32)) M h
def m6_getsPart_46 (k17 : Int32 → Int32 → Int32 → cM → Option (Int32 × cM)) : Nat → Int32 → Int32 → Int32 → Int32 → cM → Option (Int32 × cM)
  | 0, _, _, _, _, _ => none
  | n + 1, x1, x3, x4, x5, M => (if (cg M 3 0 4) ≤ x5 then m6_getsPart_115 k17 x1 x3 x4 M else (if ((zshr x3 x5) &&& (1 : Int32)) = 0 then m6_getsPart_109 k17 (m6_getsPart_46 k17 n) x1 x3 x4 x5 M else zbd (m6_aheadOf x5 M) (fun r4 M4 => (if ((zshr r4 x4) &&& (1 : Int32)) = 0 then m6_getsPart_109 k17 (m6_getsPart_46 k17 n) x1 x3 x4 x5 M4 else zbd (m3_of x5 M4) (fun r5 M5 => zbd (m3_of x1 M5) (fun r6 M6 => zbv (m6_give r5 r6 x4 M6) (fun M7 => some ((1 : Int32), M7))))))))
theorem m6_getsPart_46_ok {X : zX} {G : zG} (Hy : zHy X G q6_getsPart zcC 3 65 (some .boolean)) {r : Int32} {M' : cM} (hE : zEnd X G (some (.inl r)) (zfC M')) {k17 : Int32 → Int32 → Int32 → cM → Option (Int32 × cM)} (hk17 : ∀ (x1 : Int32) (x3 : Int32) (x4 : Int32) (M : cM), k17 x1 x3 x4 M = some (r, M') → zGo (X, q6_getsPart, G) 0 0 (17, [(0, .inr (.inr (some (6, 0)))), (1, .inl x1), (3, .inl x3), (4, .inl x4)], [], zfC M)) : ∀ (n : Nat) (x1 : Int32) (x3 : Int32) (x4 : Int32) (x5 : Int32) (M : cM), m6_getsPart_46 k17 n x1 x3 x4 x5 M = some (r, M') → zGo (X, q6_getsPart, G) 0 0 (46, [(0, .inr (.inr (some (6, 0)))), (1, .inl x1), (3, .inl x3), (4, .inl x4), (5, .inl x5)], [], zfC M) := by
  intro n
  induction n with
  | zero => intro x1 x3 x4 x5 M h; cases h
  | succ n ih =>
    intro x1 x3 x4 x5 M h
    unfold m6_getsPart_46 at h
    refine zblq Hy.1 Hy.2.1 [(.iload 5, 2), (.aload 0, 1), (.getfield 600, 3), (.multianewarray 3 4, 3)] (S' := (55, [(0, .inr (.inr (some (6, 0)))), (1, .inl x1), (3, .inl x3), (4, .inl x4), (5, .inl x5)], [.inl (cg M 3 0 4), .inl x5], zfC M)) (b := true) (by decide +kernel) rfl rfl ?_
    refine zic_ge Hy.1 (off := 60) (tgt := 115) (by decide +kernel) (by decide) (fun hb10 => ?_) (fun hb10 => ?_)
    · replace h := zite_t h hb10
      refine zGo_keep [0, 1, 3, 4] rfl ?_
      exact m6_getsPart_115_ok Hy hE hk17 x1 x3 x4 M h
    · replace h := zite_f h hb10
      refine zblq Hy.1 Hy.2.1 [(.iload 3, 1), (.iload 5, 2), (.ishr, 1), (.iconst 1, 1), (.iand, 1)] (S' := (64, [(0, .inr (.inr (some (6, 0)))), (1, .inl x1), (3, .inl x3), (4, .inl x4), (5, .inl x5)], [.inl ((zshr x3 x5) &&& (1 : Int32))], zfC M)) (b := true) (by decide +kernel) rfl rfl ?_
      refine zif_eq Hy.1 (off := 45) (tgt := 109) (by decide +kernel) (by decide) (fun hb9 => ?_) (fun hb9 => ?_)
      · replace h := zite_t h hb9
        refine zGo_keep [0, 1, 3, 4, 5] rfl ?_
        exact m6_getsPart_109_ok Hy hE hk17 ih x1 x3 x4 x5 M h
      · replace h := zite_f h hb9
        refine zblq Hy.1 Hy.2.1 [(.aload 0, 1), (.iload 5, 2)] (S' := (70, [(0, .inr (.inr (some (6, 0)))), (1, .inl x1), (3, .inl x3), (4, .inl x4), (5, .inl x5)], [.inl x5, .inr (.inr (some (6, 0)))], zfC M)) (b := true) (by decide +kernel) rfl rfl ?_
        obtain ⟨r4, M4, hc4, h⟩ := zbd_inv h
        refine zcallV Hy.1 (as := [.inl x5]) (st := []) (m6_aheadOf_met (zOK_G Hy.1) Hy.2.1 hc4) cw6_66 m6_aheadOf_in m6_aheadOf_se (by decide) (zhlv Hy.2.1 rfl) rfl (zroom Hy.2.2 ⟨by decide, by decide⟩) rfl (by decide +kernel) ⟨Nat.zero_le _, Nat.zero_le _⟩ ?_
        refine zblq Hy.1 Hy.2.1 [(.iload 4, 2), (.ishr, 1), (.iconst 1, 1), (.iand, 1)] (S' := (78, [(0, .inr (.inr (some (6, 0)))), (1, .inl x1), (3, .inl x3), (4, .inl x4), (5, .inl x5)], [.inl ((zshr r4 x4) &&& (1 : Int32))], zfC M4)) (b := true) (by decide +kernel) rfl rfl ?_
        refine zif_ne Hy.1 (off := 6) (tgt := 84) (by decide +kernel) (by decide) (fun hb8 => ?_) (fun hb8 => ?_)
        · replace h := zite_f h hb8
          refine zblq Hy.1 Hy.2.1 [(.aload 0, 1), (.aload 0, 1), (.getfield 600, 3), (.iload 5, 2)] (S' := (91, [(0, .inr (.inr (some (6, 0)))), (1, .inl x1), (3, .inl x3), (4, .inl x4), (5, .inl x5)], [.inl x5, .inr (.inr (some (3, 0))), .inr (.inr (some (6, 0)))], zfC M4)) (b := true) (by decide +kernel) rfl rfl ?_
          obtain ⟨r5, M5, hc5, h⟩ := zbd_inv h
          refine zcallV Hy.1 (as := [.inl x5]) (st := [.inr (.inr (some (6, 0)))]) (m3_of_met (zOK_G Hy.1) Hy.2.1 hc5) cw6_29 m3_of_in m3_of_se (by decide) (zhlv Hy.2.1 rfl) rfl (zroom Hy.2.2 ⟨by decide, by decide⟩) rfl (by decide +kernel) ⟨Nat.zero_le _, Nat.zero_le _⟩ ?_
          refine zblq Hy.1 Hy.2.1 [(.aload 0, 1), (.getfield 600, 3), (.iload 1, 1)] (S' := (99, [(0, .inr (.inr (some (6, 0)))), (1, .inl x1), (3, .inl x3), (4, .inl x4), (5, .inl x5)], [.inl x1, .inr (.inr (some (3, 0))), .inr (.inr (some (2, r5))), .inr (.inr (some (6, 0)))], zfC M5)) (b := true) (by decide +kernel) rfl rfl ?_
          obtain ⟨r6, M6, hc6, h⟩ := zbd_inv h
          refine zcallV Hy.1 (as := [.inl x1]) (st := [.inr (.inr (some (2, r5))), .inr (.inr (some (6, 0)))]) (m3_of_met (zOK_G Hy.1) Hy.2.1 hc6) cw6_29 m3_of_in m3_of_se (by decide) (zhlv Hy.2.1 rfl) rfl (zroom Hy.2.2 ⟨by decide, by decide⟩) rfl (by decide +kernel) ⟨Nat.zero_le _, Nat.zero_le _⟩ ?_
          refine zblq Hy.1 Hy.2.1 [(.iload 4, 2)] (S' := (104, [(0, .inr (.inr (some (6, 0)))), (1, .inl x1), (3, .inl x3), (4, .inl x4), (5, .inl x5)], [.inl x4, .inr (.inr (some (2, r6))), .inr (.inr (some (2, r5))), .inr (.inr (some (6, 0)))], zfC M6)) (b := true) (by decide +kernel) rfl rfl ?_
          obtain ⟨M7, hc7, h⟩ := zbv_inv h
          refine zcallV Hy.1 (as := [.inr (.inr (some (2, r5))), .inr (.inr (some (2, r6))), .inl x4]) (st := []) (m6_give_met (zOK_G Hy.1) Hy.2.1 hc7) cw6_69 m6_give_in m6_give_se (by decide) (zhlv Hy.2.1 rfl) rfl (zroom Hy.2.2 ⟨by decide, by decide⟩) rfl (by decide +kernel) ⟨Nat.zero_le _, Nat.zero_le _⟩ ?_
          refine zblq Hy.1 Hy.2.1 [(.iconst 1, 1)] (S' := (108, [(0, .inr (.inr (some (6, 0)))), (1, .inl x1), (3, .inl x3), (4, .inl x4), (5, .inl x5)], [.inl (1 : Int32)], zfC M7)) (b := true) (by decide +kernel) rfl rfl ?_
          cases h
          exact zret_z Hy.1 Hy.2.2 (by decide) hE (by decide +kernel)
        · replace h := zite_t h hb8
          refine zblq Hy.1 Hy.2.1 [(.ldc 109, 3)] (S' := (109, [(0, .inr (.inr (some (6, 0)))), (1, .inl x1), (3, .inl x3), (4, .inl x4), (5, .inl x5)], [], zfC M4)) (b := true) (by decide +kernel) rfl rfl ?_
          refine zGo_keep [0, 1, 3, 4, 5] rfl ?_
          exact m6_getsPart_109_ok Hy hE hk17 ih x1 x3 x4 x5 M4 h
def m6_getsPart_17 : Nat → Int32 → Int32 → Int32 → cM → Option (Int32 × cM)
  | 0, _, _, _, _ => none
  | n + 1, x1, x3, x4, M => (if (cg M 6 0 2) ≤ x4 then some ((0 : Int32), M) else zbd (m6_aheadOf x1 M) (fun r3 M3 => (if ((zshr r3 x4) &&& (1 : Int32)) = (1 : Int32) then m6_getsPart_115 (m6_getsPart_17 n) x1 x3 x4 M3 else m6_getsPart_46 (m6_getsPart_17 n) zfu x1 x3 x4 (0 : Int32) M3)))
theorem m6_getsPart_17_ok {X : zX} {G : zG} (Hy : zHy X G q6_getsPart zcC 3 65 (some .boolean)) {r : Int32} {M' : cM} (hE : zEnd X G (some (.inl r)) (zfC M')) : ∀ (n : Nat) (x1 : Int32) (x3 : Int32) (x4 : Int32) (M : cM), m6_getsPart_17 n x1 x3 x4 M = some (r, M') → zGo (X, q6_getsPart, G) 0 0 (17, [(0, .inr (.inr (some (6, 0)))), (1, .inl x1), (3, .inl x3), (4, .inl x4)], [], zfC M) := by
  intro n
  induction n with
  | zero => intro x1 x3 x4 M h; cases h
  | succ n ih =>
    intro x1 x3 x4 M h
    unfold m6_getsPart_17 at h
    refine zblq Hy.1 Hy.2.1 [(.iload 4, 2), (.aload 0, 1), (.multianewarray 6 2, 3)] (S' := (23, [(0, .inr (.inr (some (6, 0)))), (1, .inl x1), (3, .inl x3), (4, .inl x4)], [.inl (cg M 6 0 2), .inl x4], zfC M)) (b := true) (by decide +kernel) rfl rfl ?_
    refine zic_ge Hy.1 (off := 98) (tgt := 121) (by decide +kernel) (by decide) (fun hb12 => ?_) (fun hb12 => ?_)
    · replace h := zite_t h hb12
      refine zblq Hy.1 Hy.2.1 [(.iconst 0, 1)] (S' := (122, [(0, .inr (.inr (some (6, 0)))), (1, .inl x1), (3, .inl x3), (4, .inl x4)], [.inl (0 : Int32)], zfC M)) (b := true) (by decide +kernel) rfl rfl ?_
      cases h
      exact zret_z Hy.1 Hy.2.2 (by decide) hE (by decide +kernel)
    · replace h := zite_f h hb12
      refine zblq Hy.1 Hy.2.1 [(.aload 0, 1), (.iload 1, 1)] (S' := (28, [(0, .inr (.inr (some (6, 0)))), (1, .inl x1), (3, .inl x3), (4, .inl x4)], [.inl x1, .inr (.inr (some (6, 0)))], zfC M)) (b := true) (by decide +kernel) rfl rfl ?_
      obtain ⟨r3, M3, hc3, h⟩ := zbd_inv h
      refine zcallV Hy.1 (as := [.inl x1]) (st := []) (m6_aheadOf_met (zOK_G Hy.1) Hy.2.1 hc3) cw6_66 m6_aheadOf_in m6_aheadOf_se (by decide) (zhlv Hy.2.1 rfl) rfl (zroom Hy.2.2 ⟨by decide, by decide⟩) rfl (by decide +kernel) ⟨Nat.zero_le _, Nat.zero_le _⟩ ?_
      refine zblq Hy.1 Hy.2.1 [(.iload 4, 2), (.ishr, 1), (.iconst 1, 1), (.iand, 1), (.iconst 1, 1)] (S' := (37, [(0, .inr (.inr (some (6, 0)))), (1, .inl x1), (3, .inl x3), (4, .inl x4)], [.inl (1 : Int32), .inl ((zshr r3 x4) &&& (1 : Int32))], zfC M3)) (b := true) (by decide +kernel) rfl rfl ?_
      refine zic_ne Hy.1 (off := 6) (tgt := 43) (by decide +kernel) (by decide) (fun hb11 => ?_) (fun hb11 => ?_)
      · replace h := zite_f h hb11
        refine zblq Hy.1 Hy.2.1 [(.iconst 0, 1), (.istore 5, 2)] (S' := (46, [(0, .inr (.inr (some (6, 0)))), (1, .inl x1), (3, .inl x3), (4, .inl x4), (5, .inl (0 : Int32))], [], zfC M3)) (b := true) (by decide +kernel) rfl rfl ?_
        refine zGo_keep [0, 1, 3, 4, 5] rfl ?_
        exact m6_getsPart_46_ok Hy hE ih zfu x1 x3 x4 (0 : Int32) M3 h
      · replace h := zite_t h hb11
        refine zblq Hy.1 Hy.2.1 [(.ldc 115, 3)] (S' := (115, [(0, .inr (.inr (some (6, 0)))), (1, .inl x1), (3, .inl x3), (4, .inl x4)], [], zfC M3)) (b := true) (by decide +kernel) rfl rfl ?_
        refine zGo_keep [0, 1, 3, 4] rfl ?_
        exact m6_getsPart_115_ok Hy hE ih x1 x3 x4 M3 h
def m6_getsPart (x1 : Int32) (x2 : Int32) (M : cM) : Option (Int32 × cM) := zbd (m3_of x1 M) (fun r1 M1 => zgd (Nat.blt r1 10 && true) (m6_getsPart_17 zfu x1 ((cg M1 2 r1 9) &&& x2) (0 : Int32) M1))
theorem m6_getsPart_ok {X : zX} {G : zG} (Hy : zHy X G q6_getsPart zcC 3 65 (some .boolean)) {r : Int32} {M' : cM} (hE : zEnd X G (some (.inl r)) (zfC M')) (x1 : Int32) (x2 : Int32) (M : cM) (h : m6_getsPart x1 x2 M = some (r, M')) : zGo (X, q6_getsPart, G) 0 0 (0, [(0, .inr (.inr (some (6, 0)))), (1, .inl x1), (2, .inl x2)], [], zfC M) := by
  unfold m6_getsPart at h
  refine zblq Hy.1 Hy.2.1 [(.aload 0, 1), (.getfield 600, 3), (.iload 1, 1)] (S' := (5, [(0, .inr (.inr (some (6, 0)))), (1, .inl x1), (2, .inl x2)], [.inl x1, .inr (.inr (some (3, 0)))], zfC M)) (b := true) (by decide +kernel) rfl rfl ?_
  obtain ⟨r1, M1, hc1, h⟩ := zbd_inv h
  refine zcallV Hy.1 (as := [.inl x1]) (st := []) (m3_of_met (zOK_G Hy.1) Hy.2.1 hc1) cw6_29 m3_of_in m3_of_se (by decide) (zhlv Hy.2.1 rfl) rfl (zroom Hy.2.2 ⟨by decide, by decide⟩) rfl (by decide +kernel) ⟨Nat.zero_le _, Nat.zero_le _⟩ ?_
  obtain ⟨hg2, h⟩ := zgd_inv h
  refine zblq Hy.1 Hy.2.1 [(.multianewarray 2 9, 3), (.iload 2, 1), (.iand, 1), (.istore 3, 1), (.iconst 0, 1), (.istore 4, 2)] (S' := (17, [(0, .inr (.inr (some (6, 0)))), (1, .inl x1), (2, .inl x2), (3, .inl ((cg M1 2 r1 9) &&& x2)), (4, .inl (0 : Int32))], [], zfC M1)) (b := Nat.blt r1 10 && true) (by decide +kernel) rfl hg2 ?_
  refine zGo_keep [0, 1, 3, 4] rfl ?_
  exact m6_getsPart_17_ok Hy hE zfu x1 ((cg M1 2 r1 9) &&& x2) (0 : Int32) M1 h
theorem m6_getsPart_met {l : Launch} {G : zG} (hG : zGok G) (hcn : zgcn G = zcC) {x1 : Int32} {x2 : Int32} {M : cM} {r : Int32} {M' : cM} (h : m6_getsPart x1 x2 M = some (r, M')) : zMet l G yX6_getsPart cX6_getsPart 6 (some .boolean) 3 65 [.inr (.inr (some (6, 0))), .inl x1, .inl x2] (zfC M) (some (.inl r)) (zfC M') :=
  zMet_of hG tbX6_ok rfl (by decide +kernel) (Nat.le_of_ble_eq_true rfl) (fun X _ Z hA hE => m6_getsPart_ok ⟨Z, hcn, hA⟩ hE x1 x2 M h)
abbrev q6_handOn : ByteArray × Nat × String × zT := (cX6_handOn, 4, RX6, tbX6)
def m6_handOn_86 (k54 : Int32 → Int32 → Int32 → cM → Option (Int32 × cM)) (x1 : Int32) (x2 : Int32) (x3 : Int32) (M : cM) : Option (Int32 × cM) := k54 x1 x2 (x3 + (1 : Int32)) M
theorem m6_handOn_86_ok {X : zX} {G : zG} (Hy : zHy X G q6_handOn zcC 4 90 (some .int)) {r : Int32} {M' : cM} (hE : zEnd X G (some (.inl r)) (zfC M')) {k54 : Int32 → Int32 → Int32 → cM → Option (Int32 × cM)} (hk54 : ∀ (x1 : Int32) (x2 : Int32) (x3 : Int32) (M : cM), k54 x1 x2 x3 M = some (r, M') → zGo (X, q6_handOn, G) 0 0 (54, [(0, .inr (.inr (some (6, 0)))), (1, .inl x1), (2, .inl x2), (3, .inl x3)], [], zfC M)) (x1 : Int32) (x2 : Int32) (x3 : Int32) (M : cM) (h : m6_handOn_86 k54 x1 x2 x3 M = some (r, M')) : zGo (X, q6_handOn, G) 0 0 (86, [(0, .inr (.inr (some (6, 0)))), (1, .inl x1), (2, .inl x2), (3, .inl x3)], [], zfC M) := by
  unfold m6_handOn_86 at h
  refine zblq Hy.1 Hy.2.1 [(.iinc 3 1, 3), (.ldc 54, 3)] (S' := (54, [(0, .inr (.inr (some (6, 0)))), (1, .inl x1), (2, .inl x2), (3, .inl (x3 + (1 : Int32)))], [], zfC M)) (b := true) (by decide +kernel) rfl rfl ?_
  refine zGo_keep [0, 1, 2, 3] rfl ?_
  exact hk54 x1 x2 (x3 + (1 : Int32)) M h
def m6_handOn_54 : Nat → Int32 → Int32 → Int32 → cM → Option (Int32 × cM)
  | 0, _, _, _, _ => none
  | n + 1, x1, x2, x3, M => (if (cg M 3 0 4) ≤ x3 then some (x2, M) else (if ((zshr x1 x3) &&& (1 : Int32)) = (1 : Int32) then zbd (m6_getsPart x3 x1 M) (fun r2 M2 => (if r2 = 0 then m6_handOn_86 (m6_handOn_54 n) x1 x2 x3 M2 else m6_handOn_86 (m6_handOn_54 n) x1 (x2 + (1 : Int32)) x3 M2)) else m6_handOn_86 (m6_handOn_54 n) x1 x2 x3 M))
theorem m6_handOn_54_ok {X : zX} {G : zG} (Hy : zHy X G q6_handOn zcC 4 90 (some .int)) {r : Int32} {M' : cM} (hE : zEnd X G (some (.inl r)) (zfC M')) : ∀ (n : Nat) (x1 : Int32) (x2 : Int32) (x3 : Int32) (M : cM), m6_handOn_54 n x1 x2 x3 M = some (r, M') → zGo (X, q6_handOn, G) 0 0 (54, [(0, .inr (.inr (some (6, 0)))), (1, .inl x1), (2, .inl x2), (3, .inl x3)], [], zfC M) := by
  intro n
  induction n with
  | zero => intro x1 x2 x3 M h; cases h
  | succ n ih =>
    intro x1 x2 x3 M h
    unfold m6_handOn_54 at h
    refine zblq Hy.1 Hy.2.1 [(.iload 3, 1), (.aload 0, 1), (.getfield 600, 3), (.multianewarray 3 4, 3)] (S' := (62, [(0, .inr (.inr (some (6, 0)))), (1, .inl x1), (2, .inl x2), (3, .inl x3)], [.inl (cg M 3 0 4), .inl x3], zfC M)) (b := true) (by decide +kernel) rfl rfl ?_
    refine zic_ge Hy.1 (off := 30) (tgt := 92) (by decide +kernel) (by decide) (fun hb5 => ?_) (fun hb5 => ?_)
    · replace h := zite_t h hb5
      refine zblq Hy.1 Hy.2.1 [(.iload 2, 1)] (S' := (93, [(0, .inr (.inr (some (6, 0)))), (1, .inl x1), (2, .inl x2), (3, .inl x3)], [.inl x2], zfC M)) (b := true) (by decide +kernel) rfl rfl ?_
      cases h
      exact zret_i Hy.1 Hy.2.2 hE (by decide +kernel)
    · replace h := zite_f h hb5
      refine zblq Hy.1 Hy.2.1 [(.iload 1, 1), (.iload 3, 1), (.ishr, 1), (.iconst 1, 1), (.iand, 1), (.iconst 1, 1)] (S' := (71, [(0, .inr (.inr (some (6, 0)))), (1, .inl x1), (2, .inl x2), (3, .inl x3)], [.inl (1 : Int32), .inl ((zshr x1 x3) &&& (1 : Int32))], zfC M)) (b := true) (by decide +kernel) rfl rfl ?_
      refine zic_ne Hy.1 (off := 15) (tgt := 86) (by decide +kernel) (by decide) (fun hb4 => ?_) (fun hb4 => ?_)
      · replace h := zite_f h hb4
        refine zGo_keep [0, 1, 2, 3] rfl ?_
        exact m6_handOn_86_ok Hy hE ih x1 x2 x3 M h
      · replace h := zite_t h hb4
        refine zblq Hy.1 Hy.2.1 [(.aload 0, 1), (.iload 3, 1), (.iload 1, 1)] (S' := (77, [(0, .inr (.inr (some (6, 0)))), (1, .inl x1), (2, .inl x2), (3, .inl x3)], [.inl x1, .inl x3, .inr (.inr (some (6, 0)))], zfC M)) (b := true) (by decide +kernel) rfl rfl ?_
        obtain ⟨r2, M2, hc2, h⟩ := zbd_inv h
        refine zcallV Hy.1 (as := [.inl x3, .inl x1]) (st := []) (m6_getsPart_met (zOK_G Hy.1) Hy.2.1 hc2) cw6_59 m6_getsPart_in m6_getsPart_se (by decide) (zhlv Hy.2.1 rfl) rfl (zroom Hy.2.2 ⟨by decide, by decide⟩) rfl (by decide +kernel) ⟨Nat.zero_le _, Nat.zero_le _⟩ ?_
        refine zif_eq Hy.1 (off := 6) (tgt := 86) (by decide +kernel) (by decide) (fun hb3 => ?_) (fun hb3 => ?_)
        · replace h := zite_t h hb3
          refine zGo_keep [0, 1, 2, 3] rfl ?_
          exact m6_handOn_86_ok Hy hE ih x1 x2 x3 M2 h
        · replace h := zite_f h hb3
          refine zblq Hy.1 Hy.2.1 [(.iinc 2 1, 3)] (S' := (86, [(0, .inr (.inr (some (6, 0)))), (1, .inl x1), (2, .inl (x2 + (1 : Int32))), (3, .inl x3)], [], zfC M2)) (b := true) (by decide +kernel) rfl rfl ?_
          refine zGo_keep [0, 1, 2, 3] rfl ?_
          exact m6_handOn_86_ok Hy hE ih x1 (x2 + (1 : Int32)) x3 M2 h
def m6_handOn_50 (x1 : Int32) (M : cM) : Option (Int32 × cM) := m6_handOn_54 zfu x1 (0 : Int32) (1 : Int32) M
theorem m6_handOn_50_ok {X : zX} {G : zG} (Hy : zHy X G q6_handOn zcC 4 90 (some .int)) {r : Int32} {M' : cM} (hE : zEnd X G (some (.inl r)) (zfC M')) (x1 : Int32) (M : cM) (h : m6_handOn_50 x1 M = some (r, M')) : zGo (X, q6_handOn, G) 0 0 (50, [(0, .inr (.inr (some (6, 0)))), (1, .inl x1)], [], zfC M) := by
  unfold m6_handOn_50 at h
  refine zblq Hy.1 Hy.2.1 [(.iconst 0, 1), (.istore 2, 1), (.iconst 1, 1), (.istore 3, 1)] (S' := (54, [(0, .inr (.inr (some (6, 0)))), (1, .inl x1), (2, .inl (0 : Int32)), (3, .inl (1 : Int32))], [], zfC M)) (b := true) (by decide +kernel) rfl rfl ?_
  refine zGo_keep [0, 1, 2, 3] rfl ?_
  exact m6_handOn_54_ok Hy hE zfu x1 (0 : Int32) (1 : Int32) M h
def m6_handOn_10 : Nat → Int32 → Int32 → cM → Option (Int32 × cM)
  | 0, _, _, _ => none
  | n + 1, x1, x2, M => (if (cg M 3 0 4) ≤ x2 then m6_handOn_50 x1 M else (if (10 : Int32) ≤ x2 then m6_handOn_50 x1 M else zbd (m3_of x2 M) (fun r6 M6 => zgd (Nat.blt r6 10 && (zin x2 10 && true)) ((m6_handOn_10 n) x1 (x2 + (1 : Int32)) (cs M6 704 0 (nx x2) (cg M6 2 r6 16))))))
theorem m6_handOn_10_ok {X : zX} {G : zG} (Hy : zHy X G q6_handOn zcC 4 90 (some .int)) {r : Int32} {M' : cM} (hE : zEnd X G (some (.inl r)) (zfC M')) : ∀ (n : Nat) (x1 : Int32) (x2 : Int32) (M : cM), m6_handOn_10 n x1 x2 M = some (r, M') → zGo (X, q6_handOn, G) 0 0 (10, [(0, .inr (.inr (some (6, 0)))), (1, .inl x1), (2, .inl x2)], [], zfC M) := by
  intro n
  induction n with
  | zero => intro x1 x2 M h; cases h
  | succ n ih =>
    intro x1 x2 M h
    unfold m6_handOn_10 at h
    refine zblq Hy.1 Hy.2.1 [(.iload 2, 1), (.aload 0, 1), (.getfield 600, 3), (.multianewarray 3 4, 3)] (S' := (18, [(0, .inr (.inr (some (6, 0)))), (1, .inl x1), (2, .inl x2)], [.inl (cg M 3 0 4), .inl x2], zfC M)) (b := true) (by decide +kernel) rfl rfl ?_
    refine zic_ge Hy.1 (off := 32) (tgt := 50) (by decide +kernel) (by decide) (fun hb9 => ?_) (fun hb9 => ?_)
    · replace h := zite_t h hb9
      refine zGo_keep [0, 1] rfl ?_
      exact m6_handOn_50_ok Hy hE x1 M h
    · replace h := zite_f h hb9
      refine zblq Hy.1 Hy.2.1 [(.iload 2, 1), (.iconst 10, 2)] (S' := (24, [(0, .inr (.inr (some (6, 0)))), (1, .inl x1), (2, .inl x2)], [.inl (10 : Int32), .inl x2], zfC M)) (b := true) (by decide +kernel) rfl rfl ?_
      refine zic_ge Hy.1 (off := 26) (tgt := 50) (by decide +kernel) (by decide) (fun hb8 => ?_) (fun hb8 => ?_)
      · replace h := zite_t h hb8
        refine zGo_keep [0, 1] rfl ?_
        exact m6_handOn_50_ok Hy hE x1 M h
      · replace h := zite_f h hb8
        refine zblq Hy.1 Hy.2.1 [(.aload 0, 1), (.getfield 604, 3), (.iload 2, 1), (.aload 0, 1), (.getfield 600, 3), (.iload 2, 1)] (S' := (37, [(0, .inr (.inr (some (6, 0)))), (1, .inl x1), (2, .inl x2)], [.inl x2, .inr (.inr (some (3, 0))), .inl x2, .inr (.inr (some (704, 0)))], zfC M)) (b := true) (by decide +kernel) rfl rfl ?_
        obtain ⟨r6, M6, hc6, h⟩ := zbd_inv h
        refine zcallV Hy.1 (as := [.inl x2]) (st := [.inl x2, .inr (.inr (some (704, 0)))]) (m3_of_met (zOK_G Hy.1) Hy.2.1 hc6) cw6_29 m3_of_in m3_of_se (by decide) (zhlv Hy.2.1 rfl) rfl (zroom Hy.2.2 ⟨by decide, by decide⟩) rfl (by decide +kernel) ⟨Nat.zero_le _, Nat.zero_le _⟩ ?_
        obtain ⟨hg7, h⟩ := zgd_inv h
        refine zblq Hy.1 Hy.2.1 [(.multianewarray 2 16, 3), (.iastore, 1), (.iinc 2 1, 3), (.ldc 10, 3)] (S' := (10, [(0, .inr (.inr (some (6, 0)))), (1, .inl x1), (2, .inl (x2 + (1 : Int32)))], [], zfC (cs M6 704 0 (nx x2) (cg M6 2 r6 16)))) (b := Nat.blt r6 10 && (zin x2 10 && true)) (by decide +kernel) rfl hg7 ?_
        refine zGo_keep [0, 1, 2] rfl ?_
        exact ih x1 (x2 + (1 : Int32)) (cs M6 704 0 (nx x2) (cg M6 2 r6 16)) h
def m6_handOn  (M : cM) : Option (Int32 × cM) := zbd (m3_living M) (fun r1 M1 => m6_handOn_10 zfu r1 (0 : Int32) M1)
theorem m6_handOn_ok {X : zX} {G : zG} (Hy : zHy X G q6_handOn zcC 4 90 (some .int)) {r : Int32} {M' : cM} (hE : zEnd X G (some (.inl r)) (zfC M'))  (M : cM) (h : m6_handOn M = some (r, M')) : zGo (X, q6_handOn, G) 0 0 (0, [(0, .inr (.inr (some (6, 0))))], [], zfC M) := by
  unfold m6_handOn at h
  refine zblq Hy.1 Hy.2.1 [(.aload 0, 1), (.getfield 600, 3)] (S' := (4, [(0, .inr (.inr (some (6, 0))))], [.inr (.inr (some (3, 0)))], zfC M)) (b := true) (by decide +kernel) rfl rfl ?_
  obtain ⟨r1, M1, hc1, h⟩ := zbd_inv h
  refine zcallV Hy.1 (as := []) (st := []) (m3_living_met (zOK_G Hy.1) Hy.2.1 hc1) cw6_55 m3_living_in m3_living_se (by decide) (zhlv Hy.2.1 rfl) rfl (zroom Hy.2.2 ⟨by decide, by decide⟩) rfl (by decide +kernel) ⟨Nat.zero_le _, Nat.zero_le _⟩ ?_
  refine zblq Hy.1 Hy.2.1 [(.istore 1, 1), (.iconst 0, 1), (.istore 2, 1)] (S' := (10, [(0, .inr (.inr (some (6, 0)))), (1, .inl r1), (2, .inl (0 : Int32))], [], zfC M1)) (b := true) (by decide +kernel) rfl rfl ?_
  refine zGo_keep [0, 1, 2] rfl ?_
  exact m6_handOn_10_ok Hy hE zfu r1 (0 : Int32) M1 h
theorem m6_handOn_met {l : Launch} {G : zG} (hG : zGok G) (hcn : zgcn G = zcC)  {M : cM} {r : Int32} {M' : cM} (h : m6_handOn M = some (r, M')) : zMet l G yX6_handOn cX6_handOn 4 (some .int) 4 90 [.inr (.inr (some (6, 0)))] (zfC M) (some (.inl r)) (zfC M') :=
  zMet_of hG tbX6_ok rfl (by decide +kernel) (Nat.le_of_ble_eq_true rfl) (fun X _ Z hA hE => m6_handOn_ok ⟨Z, hcn, hA⟩ hE M h)
abbrev q11_hand : ByteArray × Nat × String × zT := (cX11_hand, 1, RX11, tbX11)
def m11_hand  (M : cM) : Option (Int32 × cM) := zbd (m6_handOn M) (fun r1 M1 => some (r1, M1))
theorem m11_hand_ok {X : zX} {G : zG} (Hy : zHy X G q11_hand zcC 5 113 (some .int)) {r : Int32} {M' : cM} (hE : zEnd X G (some (.inl r)) (zfC M'))  (M : cM) (h : m11_hand M = some (r, M')) : zGo (X, q11_hand, G) 0 0 (0, [(0, .inr (.inr (some (11, 0))))], [], zfC M) := by
  unfold m11_hand at h
  refine zblq Hy.1 Hy.2.1 [(.aload 0, 1), (.getfield 1105, 3)] (S' := (4, [(0, .inr (.inr (some (11, 0))))], [.inr (.inr (some (6, 0)))], zfC M)) (b := true) (by decide +kernel) rfl rfl ?_
  obtain ⟨r1, M1, hc1, h⟩ := zbd_inv h
  refine zcallV Hy.1 (as := []) (st := []) (m6_handOn_met (zOK_G Hy.1) Hy.2.1 hc1) cw11_266 m6_handOn_in m6_handOn_se (by decide) (zhlv Hy.2.1 rfl) rfl (zroom Hy.2.2 ⟨by decide, by decide⟩) rfl (by decide +kernel) ⟨Nat.zero_le _, Nat.zero_le _⟩ ?_
  cases h
  exact zret_i Hy.1 Hy.2.2 hE (by decide +kernel)
theorem m11_hand_met {l : Launch} {G : zG} (hG : zGok G) (hcn : zgcn G = zcC)  {M : cM} {r : Int32} {M' : cM} (h : m11_hand M = some (r, M')) : zMet l G yX11_hand cX11_hand 1 (some .int) 5 113 [.inr (.inr (some (11, 0)))] (zfC M) (some (.inl r)) (zfC M') :=
  zMet_of hG tbX11_ok rfl (by decide +kernel) (Nat.le_of_ble_eq_true rfl) (fun X _ Z hA hE => m11_hand_ok ⟨Z, hcn, hA⟩ hE M h)
abbrev q6_hasPart : ByteArray × Nat × String × zT := (cX6_hasPart, 2, RX6, tbX6)
def m6_hasPart (x1 : Int32) (M : cM) : Option (Int32 × cM) := (if x1 < 0 then some ((0 : Int32), M) else (if (cg M 6 0 2) ≤ x1 then some ((0 : Int32), M) else some ((1 : Int32), M)))
theorem m6_hasPart_ok {X : zX} {G : zG} (Hy : zHy X G q6_hasPart zcC 0 0 (some .boolean)) {r : Int32} {M' : cM} (hE : zEnd X G (some (.inl r)) (zfC M')) (x1 : Int32) (M : cM) (h : m6_hasPart x1 M = some (r, M')) : zGo (X, q6_hasPart, G) 0 0 (0, [(0, .inr (.inr (some (6, 0)))), (1, .inl x1)], [], zfC M) := by
  unfold m6_hasPart at h
  refine zblq Hy.1 Hy.2.1 [(.iload 1, 1)] (S' := (1, [(0, .inr (.inr (some (6, 0)))), (1, .inl x1)], [.inl x1], zfC M)) (b := true) (by decide +kernel) rfl rfl ?_
  refine zif_lt Hy.1 (off := 15) (tgt := 16) (by decide +kernel) (by decide) (fun hb2 => ?_) (fun hb2 => ?_)
  · replace h := zite_t h hb2
    refine zblq Hy.1 Hy.2.1 [(.iconst 0, 1)] (S' := (17, [(0, .inr (.inr (some (6, 0)))), (1, .inl x1)], [.inl (0 : Int32)], zfC M)) (b := true) (by decide +kernel) rfl rfl ?_
    cases h
    exact zret_z Hy.1 Hy.2.2 (by decide) hE (by decide +kernel)
  · replace h := zite_f h hb2
    refine zblq Hy.1 Hy.2.1 [(.iload 1, 1), (.aload 0, 1), (.multianewarray 6 2, 3)] (S' := (9, [(0, .inr (.inr (some (6, 0)))), (1, .inl x1)], [.inl (cg M 6 0 2), .inl x1], zfC M)) (b := true) (by decide +kernel) rfl rfl ?_
    refine zic_ge Hy.1 (off := 7) (tgt := 16) (by decide +kernel) (by decide) (fun hb1 => ?_) (fun hb1 => ?_)
    · replace h := zite_t h hb1
      refine zblq Hy.1 Hy.2.1 [(.iconst 0, 1)] (S' := (17, [(0, .inr (.inr (some (6, 0)))), (1, .inl x1)], [.inl (0 : Int32)], zfC M)) (b := true) (by decide +kernel) rfl rfl ?_
      cases h
      exact zret_z Hy.1 Hy.2.2 (by decide) hE (by decide +kernel)
    · replace h := zite_f h hb1
      refine zblq Hy.1 Hy.2.1 [(.iconst 1, 1), (.ldc 17, 3)] (S' := (17, [(0, .inr (.inr (some (6, 0)))), (1, .inl x1)], [.inl (1 : Int32)], zfC M)) (b := true) (by decide +kernel) rfl rfl ?_
      cases h
      exact zret_z Hy.1 Hy.2.2 (by decide) hE (by decide +kernel)
theorem m6_hasPart_met {l : Launch} {G : zG} (hG : zGok G) (hcn : zgcn G = zcC) {x1 : Int32} {M : cM} {r : Int32} {M' : cM} (h : m6_hasPart x1 M = some (r, M')) : zMet l G yX6_hasPart cX6_hasPart 2 (some .boolean) 0 0 [.inr (.inr (some (6, 0))), .inl x1] (zfC M) (some (.inl r)) (zfC M') :=
  zMet_of hG tbX6_ok rfl (by decide +kernel) (Nat.le_of_ble_eq_true rfl) (fun X _ Z hA hE => m6_hasPart_ok ⟨Z, hcn, hA⟩ hE x1 M h)
abbrev q11_tear : ByteArray × Nat × String × zT := (cX11_tear, 6, RX11, tbX11)
def m11_tear (x1 : Int32) (x2 : Int32) (x3 : Int32) (M : cM) : Option (Int32 × cM) := zbd (m3_knows x1 M) (fun r1 M1 => (if r1 = 0 then some ((-2 : Int32), M1) else (if x1 = 0 then some ((-2 : Int32), M1) else zbd (m6_hasPart x2 M1) (fun r2 M2 => (if r2 = 0 then some ((-2 : Int32), M2) else zbd (m11_outside x3 (0 : Int32) (255 : Int32) M2) (fun r3 M3 => (if r3 = 0 then zbd (m3_of x1 M3) (fun r4 M4 => zgd (Nat.blt r4 10 && true) ((if ((zshr (cg M4 2 r4 16) x2) &&& (1 : Int32)) = 0 then some ((-4 : Int32), M4) else zgd (Nat.blt r4 10) (zbd (m2_partValue r4 x2 M4) (fun r6 M6 => zgd (Nat.blt r4 10) (zbv (m2_takePart r4 x2 x3 M6) (fun M8 => some (r6, M8)))))))) else some ((-3 : Int32), M3))))))))
theorem m11_tear_ok {X : zX} {G : zG} (Hy : zHy X G q11_tear zcC 1 22 (some .int)) {r : Int32} {M' : cM} (hE : zEnd X G (some (.inl r)) (zfC M')) (x1 : Int32) (x2 : Int32) (x3 : Int32) (M : cM) (h : m11_tear x1 x2 x3 M = some (r, M')) : zGo (X, q11_tear, G) 0 0 (0, [(0, .inr (.inr (some (11, 0)))), (1, .inl x1), (2, .inl x2), (3, .inl x3)], [], zfC M) := by
  unfold m11_tear at h
  refine zblq Hy.1 Hy.2.1 [(.aload 0, 1), (.getfield 1100, 3), (.iload 1, 1)] (S' := (5, [(0, .inr (.inr (some (11, 0)))), (1, .inl x1), (2, .inl x2), (3, .inl x3)], [.inl x1, .inr (.inr (some (3, 0)))], zfC M)) (b := true) (by decide +kernel) rfl rfl ?_
  obtain ⟨r1, M1, hc1, h⟩ := zbd_inv h
  refine zcallV Hy.1 (as := [.inl x1]) (st := []) (m3_knows_met (zOK_G Hy.1) Hy.2.1 hc1) cw11_74 m3_knows_in m3_knows_se (by decide) (zhlv Hy.2.1 rfl) rfl (zroom Hy.2.2 ⟨by decide, by decide⟩) rfl (by decide +kernel) ⟨Nat.zero_le _, Nat.zero_le _⟩ ?_
  refine zif_eq Hy.1 (off := 18) (tgt := 26) (by decide +kernel) (by decide) (fun hb14 => ?_) (fun hb14 => ?_)
  · replace h := zite_t h hb14
    refine zblq Hy.1 Hy.2.1 [(.iconst (-2), 2)] (S' := (28, [(0, .inr (.inr (some (11, 0)))), (1, .inl x1), (2, .inl x2), (3, .inl x3)], [.inl (-2 : Int32)], zfC M1)) (b := true) (by decide +kernel) rfl rfl ?_
    cases h
    exact zret_i Hy.1 Hy.2.2 hE (by decide +kernel)
  · replace h := zite_f h hb14
    refine zblq Hy.1 Hy.2.1 [(.iload 1, 1)] (S' := (12, [(0, .inr (.inr (some (11, 0)))), (1, .inl x1), (2, .inl x2), (3, .inl x3)], [.inl x1], zfC M1)) (b := true) (by decide +kernel) rfl rfl ?_
    refine zif_eq Hy.1 (off := 14) (tgt := 26) (by decide +kernel) (by decide) (fun hb13 => ?_) (fun hb13 => ?_)
    · replace h := zite_t h hb13
      refine zblq Hy.1 Hy.2.1 [(.iconst (-2), 2)] (S' := (28, [(0, .inr (.inr (some (11, 0)))), (1, .inl x1), (2, .inl x2), (3, .inl x3)], [.inl (-2 : Int32)], zfC M1)) (b := true) (by decide +kernel) rfl rfl ?_
      cases h
      exact zret_i Hy.1 Hy.2.2 hE (by decide +kernel)
    · replace h := zite_f h hb13
      refine zblq Hy.1 Hy.2.1 [(.aload 0, 1), (.getfield 1105, 3), (.iload 2, 1)] (S' := (20, [(0, .inr (.inr (some (11, 0)))), (1, .inl x1), (2, .inl x2), (3, .inl x3)], [.inl x2, .inr (.inr (some (6, 0)))], zfC M1)) (b := true) (by decide +kernel) rfl rfl ?_
      obtain ⟨r2, M2, hc2, h⟩ := zbd_inv h
      refine zcallV Hy.1 (as := [.inl x2]) (st := []) (m6_hasPart_met (zOK_G Hy.1) Hy.2.1 hc2) cw11_269 m6_hasPart_in m6_hasPart_se (by decide) (zhlv Hy.2.1 rfl) rfl (zroom Hy.2.2 ⟨by decide, by decide⟩) rfl (by decide +kernel) ⟨Nat.zero_le _, Nat.zero_le _⟩ ?_
      refine zif_ne Hy.1 (off := 6) (tgt := 29) (by decide +kernel) (by decide) (fun hb12 => ?_) (fun hb12 => ?_)
      · replace h := zite_f h hb12
        refine zblq Hy.1 Hy.2.1 [(.iload 3, 1), (.iconst 0, 1), (.iconst 255, 3)] (S' := (34, [(0, .inr (.inr (some (11, 0)))), (1, .inl x1), (2, .inl x2), (3, .inl x3)], [.inl (255 : Int32), .inl (0 : Int32), .inl x3], zfC M2)) (b := true) (by decide +kernel) rfl rfl ?_
        obtain ⟨r3, M3, hc3, h⟩ := zbd_inv h
        refine zcallS Hy.1 (as := [.inl x3, .inl (0 : Int32), .inl (255 : Int32)]) (st := []) (m11_outside_met (zOK_G Hy.1) Hy.2.1 hc3) cw11_66 m11_outside_in rfl (zroom Hy.2.2 ⟨by decide, by decide⟩) rfl (by decide +kernel) ⟨Nat.zero_le _, Nat.zero_le _⟩ ?_
        refine zif_eq Hy.1 (off := 6) (tgt := 43) (by decide +kernel) (by decide) (fun hb11 => ?_) (fun hb11 => ?_)
        · replace h := zite_t h hb11
          refine zblq Hy.1 Hy.2.1 [(.aload 0, 1), (.getfield 1100, 3), (.iload 1, 1)] (S' := (48, [(0, .inr (.inr (some (11, 0)))), (1, .inl x1), (2, .inl x2), (3, .inl x3)], [.inl x1, .inr (.inr (some (3, 0)))], zfC M3)) (b := true) (by decide +kernel) rfl rfl ?_
          obtain ⟨r4, M4, hc4, h⟩ := zbd_inv h
          refine zcallV Hy.1 (as := [.inl x1]) (st := []) (m3_of_met (zOK_G Hy.1) Hy.2.1 hc4) cw11_78 m3_of_in m3_of_se (by decide) (zhlv Hy.2.1 rfl) rfl (zroom Hy.2.2 ⟨by decide, by decide⟩) rfl (by decide +kernel) ⟨Nat.zero_le _, Nat.zero_le _⟩ ?_
          obtain ⟨hg5, h⟩ := zgd_inv h
          refine zblq Hy.1 Hy.2.1 [(.astore 4, 2), (.aload 4, 2), (.multianewarray 2 16, 3), (.iload 2, 1), (.ishr, 1), (.iconst 1, 1), (.iand, 1)] (S' := (62, [(0, .inr (.inr (some (11, 0)))), (1, .inl x1), (2, .inl x2), (3, .inl x3), (4, .inr (.inr (some (2, r4))))], [.inl ((zshr (cg M4 2 r4 16) x2) &&& (1 : Int32))], zfC M4)) (b := Nat.blt r4 10 && true) (by decide +kernel) rfl hg5 ?_
          refine zif_ne Hy.1 (off := 6) (tgt := 68) (by decide +kernel) (by decide) (fun hb10 => ?_) (fun hb10 => ?_)
          · replace h := zite_f h hb10
            refine zblq Hy.1 Hy.2.1 [(.aload 4, 2), (.iload 2, 1)] (S' := (71, [(0, .inr (.inr (some (11, 0)))), (1, .inl x1), (2, .inl x2), (3, .inl x3), (4, .inr (.inr (some (2, r4))))], [.inl x2, .inr (.inr (some (2, r4)))], zfC M4)) (b := true) (by decide +kernel) rfl rfl ?_
            obtain ⟨hg7, h⟩ := zgd_inv h
            obtain ⟨r6, M6, hc6, h⟩ := zbd_inv h
            refine zcallV Hy.1 (as := [.inl x2]) (st := []) (m2_partValue_met (zOK_G Hy.1) Hy.2.1 hc6) cw11_275 m2_partValue_in m2_partValue_se (by decide) (zhlv Hy.2.1 hg7) rfl (zroom Hy.2.2 ⟨by decide, by decide⟩) rfl (by decide +kernel) ⟨Nat.zero_le _, Nat.zero_le _⟩ ?_
            refine zblq Hy.1 Hy.2.1 [(.istore 5, 2), (.aload 4, 2), (.iload 2, 1), (.iload 3, 1)] (S' := (80, [(0, .inr (.inr (some (11, 0)))), (1, .inl x1), (2, .inl x2), (3, .inl x3), (4, .inr (.inr (some (2, r4)))), (5, .inl r6)], [.inl x3, .inl x2, .inr (.inr (some (2, r4)))], zfC M6)) (b := true) (by decide +kernel) rfl rfl ?_
            obtain ⟨hg9, h⟩ := zgd_inv h
            obtain ⟨M8, hc8, h⟩ := zbv_inv h
            refine zcallV Hy.1 (as := [.inl x2, .inl x3]) (st := []) (m2_takePart_met (zOK_G Hy.1) Hy.2.1 hc8) cw11_278 m2_takePart_in m2_takePart_se (by decide) (zhlv Hy.2.1 hg9) rfl (zroom Hy.2.2 ⟨by decide, by decide⟩) rfl (by decide +kernel) ⟨Nat.zero_le _, Nat.zero_le _⟩ ?_
            refine zblq Hy.1 Hy.2.1 [(.iload 5, 2)] (S' := (85, [(0, .inr (.inr (some (11, 0)))), (1, .inl x1), (2, .inl x2), (3, .inl x3), (4, .inr (.inr (some (2, r4)))), (5, .inl r6)], [.inl r6], zfC M8)) (b := true) (by decide +kernel) rfl rfl ?_
            cases h
            exact zret_i Hy.1 Hy.2.2 hE (by decide +kernel)
          · replace h := zite_t h hb10
            refine zblq Hy.1 Hy.2.1 [(.iconst (-4), 2)] (S' := (67, [(0, .inr (.inr (some (11, 0)))), (1, .inl x1), (2, .inl x2), (3, .inl x3), (4, .inr (.inr (some (2, r4))))], [.inl (-4 : Int32)], zfC M4)) (b := true) (by decide +kernel) rfl rfl ?_
            cases h
            exact zret_i Hy.1 Hy.2.2 hE (by decide +kernel)
        · replace h := zite_f h hb11
          refine zblq Hy.1 Hy.2.1 [(.iconst (-3), 2)] (S' := (42, [(0, .inr (.inr (some (11, 0)))), (1, .inl x1), (2, .inl x2), (3, .inl x3)], [.inl (-3 : Int32)], zfC M3)) (b := true) (by decide +kernel) rfl rfl ?_
          cases h
          exact zret_i Hy.1 Hy.2.2 hE (by decide +kernel)
      · replace h := zite_t h hb12
        refine zblq Hy.1 Hy.2.1 [(.iconst (-2), 2)] (S' := (28, [(0, .inr (.inr (some (11, 0)))), (1, .inl x1), (2, .inl x2), (3, .inl x3)], [.inl (-2 : Int32)], zfC M2)) (b := true) (by decide +kernel) rfl rfl ?_
        cases h
        exact zret_i Hy.1 Hy.2.2 hE (by decide +kernel)
theorem m11_tear_met {l : Launch} {G : zG} (hG : zGok G) (hcn : zgcn G = zcC) {x1 : Int32} {x2 : Int32} {x3 : Int32} {M : cM} {r : Int32} {M' : cM} (h : m11_tear x1 x2 x3 M = some (r, M')) : zMet l G yX11_tear cX11_tear 6 (some .int) 1 22 [.inr (.inr (some (11, 0))), .inl x1, .inl x2, .inl x3] (zfC M) (some (.inl r)) (zfC M') :=
  zMet_of hG tbX11_ok rfl (by decide +kernel) (Nat.le_of_ble_eq_true rfl) (fun X _ Z hA hE => m11_tear_ok ⟨Z, hcn, hA⟩ hE x1 x2 x3 M h)
abbrev q6_isSound : ByteArray × Nat × String × zT := (cX6_isSound, 2, RX6, tbX6)
def m6_isSound (i1 : Nat) (M : cM) : Option (Int32 × cM) := (if (cg M 6 0 1) = 0 then some ((0 : Int32), M) else zgd (Nat.blt i1 10 && true) ((if (cg M 2 i1 16) = ((zshl (1 : Int32) (cg M 6 0 2)) - (1 : Int32)) then zbd (m6_sumOfParts i1 M) (fun r2 M2 => zgd (znz (251 : Int32) && true) ((if (zrem r2 (251 : Int32)) = (cg M2 6 0 3) then some ((1 : Int32), M2) else some ((0 : Int32), M2)))) else some ((0 : Int32), M))))
theorem m6_isSound_ok {X : zX} {G : zG} (Hy : zHy X G q6_isSound zcC 2 44 (some .boolean)) {r : Int32} {M' : cM} (hE : zEnd X G (some (.inl r)) (zfC M')) (i1 : Nat) (M : cM) (h : m6_isSound i1 M = some (r, M')) : zGo (X, q6_isSound, G) 0 0 (0, [(0, .inr (.inr (some (6, 0)))), (1, .inr (.inr (some (2, i1))))], [], zfC M) := by
  unfold m6_isSound at h
  refine zblq Hy.1 Hy.2.1 [(.aload 0, 1), (.multianewarray 6 1, 3)] (S' := (4, [(0, .inr (.inr (some (6, 0)))), (1, .inr (.inr (some (2, i1))))], [.inl (cg M 6 0 1)], zfC M)) (b := true) (by decide +kernel) rfl rfl ?_
  refine zif_eq Hy.1 (off := 18) (tgt := 22) (by decide +kernel) (by decide) (fun hb6 => ?_) (fun hb6 => ?_)
  · replace h := zite_t h hb6
    refine zblq Hy.1 Hy.2.1 [(.iconst 0, 1)] (S' := (23, [(0, .inr (.inr (some (6, 0)))), (1, .inr (.inr (some (2, i1))))], [.inl (0 : Int32)], zfC M)) (b := true) (by decide +kernel) rfl rfl ?_
    cases h
    exact zret_z Hy.1 Hy.2.2 (by decide) hE (by decide +kernel)
  · replace h := zite_f h hb6
    obtain ⟨hg1, h⟩ := zgd_inv h
    refine zblq Hy.1 Hy.2.1 [(.aload 1, 1), (.multianewarray 2 16, 3), (.iconst 1, 1), (.aload 0, 1), (.multianewarray 6 2, 3), (.ishl, 1), (.iconst 1, 1), (.isub, 1)] (S' := (19, [(0, .inr (.inr (some (6, 0)))), (1, .inr (.inr (some (2, i1))))], [.inl ((zshl (1 : Int32) (cg M 6 0 2)) - (1 : Int32)), .inl (cg M 2 i1 16)], zfC M)) (b := Nat.blt i1 10 && true) (by decide +kernel) rfl hg1 ?_
    refine zic_eq Hy.1 (off := 5) (tgt := 24) (by decide +kernel) (by decide) (fun hb5 => ?_) (fun hb5 => ?_)
    · replace h := zite_t h hb5
      refine zblq Hy.1 Hy.2.1 [(.aload 0, 1), (.aload 1, 1)] (S' := (26, [(0, .inr (.inr (some (6, 0)))), (1, .inr (.inr (some (2, i1))))], [.inr (.inr (some (2, i1))), .inr (.inr (some (6, 0)))], zfC M)) (b := true) (by decide +kernel) rfl rfl ?_
      obtain ⟨r2, M2, hc2, h⟩ := zbd_inv h
      refine zcallV Hy.1 (as := [.inr (.inr (some (2, i1)))]) (st := []) (m6_sumOfParts_met (zOK_G Hy.1) Hy.2.1 hc2) cw6_44 m6_sumOfParts_in m6_sumOfParts_se (by decide) (zhlv Hy.2.1 rfl) rfl (zroom Hy.2.2 ⟨by decide, by decide⟩) rfl (by decide +kernel) ⟨Nat.zero_le _, Nat.zero_le _⟩ ?_
      obtain ⟨hg3, h⟩ := zgd_inv h
      refine zblq Hy.1 Hy.2.1 [(.iconst 251, 3), (.irem, 1), (.aload 0, 1), (.multianewarray 6 3, 3)] (S' := (37, [(0, .inr (.inr (some (6, 0)))), (1, .inr (.inr (some (2, i1))))], [.inl (cg M2 6 0 3), .inl (zrem r2 (251 : Int32))], zfC M2)) (b := znz (251 : Int32) && true) (by decide +kernel) rfl hg3 ?_
      refine zic_ne Hy.1 (off := 7) (tgt := 44) (by decide +kernel) (by decide) (fun hb4 => ?_) (fun hb4 => ?_)
      · replace h := zite_f h hb4
        refine zblq Hy.1 Hy.2.1 [(.iconst 0, 1)] (S' := (45, [(0, .inr (.inr (some (6, 0)))), (1, .inr (.inr (some (2, i1))))], [.inl (0 : Int32)], zfC M2)) (b := true) (by decide +kernel) rfl rfl ?_
        cases h
        exact zret_z Hy.1 Hy.2.2 (by decide) hE (by decide +kernel)
      · replace h := zite_t h hb4
        refine zblq Hy.1 Hy.2.1 [(.iconst 1, 1), (.ldc 45, 3)] (S' := (45, [(0, .inr (.inr (some (6, 0)))), (1, .inr (.inr (some (2, i1))))], [.inl (1 : Int32)], zfC M2)) (b := true) (by decide +kernel) rfl rfl ?_
        cases h
        exact zret_z Hy.1 Hy.2.2 (by decide) hE (by decide +kernel)
    · replace h := zite_f h hb5
      refine zblq Hy.1 Hy.2.1 [(.iconst 0, 1)] (S' := (23, [(0, .inr (.inr (some (6, 0)))), (1, .inr (.inr (some (2, i1))))], [.inl (0 : Int32)], zfC M)) (b := true) (by decide +kernel) rfl rfl ?_
      cases h
      exact zret_z Hy.1 Hy.2.2 (by decide) hE (by decide +kernel)
theorem m6_isSound_met {l : Launch} {G : zG} (hG : zGok G) (hcn : zgcn G = zcC) {i1 : Nat} {M : cM} {r : Int32} {M' : cM} (h : m6_isSound i1 M = some (r, M')) : zMet l G yX6_isSound cX6_isSound 2 (some .boolean) 2 44 [.inr (.inr (some (6, 0))), .inr (.inr (some (2, i1)))] (zfC M) (some (.inl r)) (zfC M') :=
  zMet_of hG tbX6_ok rfl (by decide +kernel) (Nat.le_of_ble_eq_true rfl) (fun X _ Z hA hE => m6_isSound_ok ⟨Z, hcn, hA⟩ hE i1 M h)
abbrev q11_has : ByteArray × Nat × String × zT := (cX11_has, 4, RX11, tbX11)
def m11_has (x1 : Int32) (x2 : Int32) (M : cM) : Option (Int32 × cM) := zbd (m3_knows x1 M) (fun r1 M1 => (if r1 = 0 then some ((-2 : Int32), M1) else zbd (m3_of x1 M1) (fun r2 M2 => (if x2 = 0 then zgd (Nat.blt r2 10 && true) (some (cg M2 2 r2 16, M2)) else (if x2 = 1 then zbd (m6_isSound r2 M2) (fun r5 M5 => (if r5 = 0 then some ((0 : Int32), M5) else some ((1 : Int32), M5))) else (if x2 = 2 then zgd (Nat.blt r2 10 && true) (some (cg M2 2 r2 18, M2)) else (some ((-3 : Int32), M2))))))))
theorem m11_has_ok {X : zX} {G : zG} (Hy : zHy X G q11_has zcC 3 65 (some .int)) {r : Int32} {M' : cM} (hE : zEnd X G (some (.inl r)) (zfC M')) (x1 : Int32) (x2 : Int32) (M : cM) (h : m11_has x1 x2 M = some (r, M')) : zGo (X, q11_has, G) 0 0 (0, [(0, .inr (.inr (some (11, 0)))), (1, .inl x1), (2, .inl x2)], [], zfC M) := by
  unfold m11_has at h
  refine zblq Hy.1 Hy.2.1 [(.aload 0, 1), (.getfield 1100, 3), (.iload 1, 1)] (S' := (5, [(0, .inr (.inr (some (11, 0)))), (1, .inl x1), (2, .inl x2)], [.inl x1, .inr (.inr (some (3, 0)))], zfC M)) (b := true) (by decide +kernel) rfl rfl ?_
  obtain ⟨r1, M1, hc1, h⟩ := zbd_inv h
  refine zcallV Hy.1 (as := [.inl x1]) (st := []) (m3_knows_met (zOK_G Hy.1) Hy.2.1 hc1) cw11_74 m3_knows_in m3_knows_se (by decide) (zhlv Hy.2.1 rfl) rfl (zroom Hy.2.2 ⟨by decide, by decide⟩) rfl (by decide +kernel) ⟨Nat.zero_le _, Nat.zero_le _⟩ ?_
  refine zif_ne Hy.1 (off := 6) (tgt := 14) (by decide +kernel) (by decide) (fun hb8 => ?_) (fun hb8 => ?_)
  · replace h := zite_f h hb8
    refine zblq Hy.1 Hy.2.1 [(.aload 0, 1), (.getfield 1100, 3), (.iload 1, 1)] (S' := (19, [(0, .inr (.inr (some (11, 0)))), (1, .inl x1), (2, .inl x2)], [.inl x1, .inr (.inr (some (3, 0)))], zfC M1)) (b := true) (by decide +kernel) rfl rfl ?_
    obtain ⟨r2, M2, hc2, h⟩ := zbd_inv h
    refine zcallV Hy.1 (as := [.inl x1]) (st := []) (m3_of_met (zOK_G Hy.1) Hy.2.1 hc2) cw11_78 m3_of_in m3_of_se (by decide) (zhlv Hy.2.1 rfl) rfl (zroom Hy.2.2 ⟨by decide, by decide⟩) rfl (by decide +kernel) ⟨Nat.zero_le _, Nat.zero_le _⟩ ?_
    refine zblq Hy.1 Hy.2.1 [(.astore 3, 1), (.iload 2, 1)] (S' := (24, [(0, .inr (.inr (some (11, 0)))), (1, .inl x1), (2, .inl x2), (3, .inr (.inr (some (2, r2))))], [.inl x2], zfC M2)) (b := true) (by decide +kernel) rfl rfl ?_
    have hd3 : decode cX11_has 24 = .ok (.tableswitch 55 0 2 #[28, 33, 50], 28) := by decide +kernel
    by_cases hs3_0 : x2 = (0 : Int32)
    · replace h := zite_t h hs3_0
      refine zsw_in Hy.1 (v := 0) (tgt := 52) (off := 28) hs3_0 hd3 (by decide +kernel) (by decide) ?_
      obtain ⟨hg4, h⟩ := zgd_inv h
      refine zblq Hy.1 Hy.2.1 [(.aload 3, 1), (.multianewarray 2 16, 3)] (S' := (56, [(0, .inr (.inr (some (11, 0)))), (1, .inl x1), (2, .inl x2), (3, .inr (.inr (some (2, r2))))], [.inl (cg M2 2 r2 16)], zfC M2)) (b := Nat.blt r2 10 && true) (by decide +kernel) rfl hg4 ?_
      cases h
      exact zret_i Hy.1 Hy.2.2 hE (by decide +kernel)
    replace h := zite_f h hs3_0
    by_cases hs3_1 : x2 = (1 : Int32)
    · replace h := zite_t h hs3_1
      refine zsw_in Hy.1 (v := 1) (tgt := 57) (off := 33) hs3_1 hd3 (by decide +kernel) (by decide) ?_
      refine zblq Hy.1 Hy.2.1 [(.aload 0, 1), (.getfield 1105, 3), (.aload 3, 1)] (S' := (62, [(0, .inr (.inr (some (11, 0)))), (1, .inl x1), (2, .inl x2), (3, .inr (.inr (some (2, r2))))], [.inr (.inr (some (2, r2))), .inr (.inr (some (6, 0)))], zfC M2)) (b := true) (by decide +kernel) rfl rfl ?_
      obtain ⟨r5, M5, hc5, h⟩ := zbd_inv h
      refine zcallV Hy.1 (as := [.inr (.inr (some (2, r2)))]) (st := []) (m6_isSound_met (zOK_G Hy.1) Hy.2.1 hc5) cw11_281 m6_isSound_in m6_isSound_se (by decide) (zhlv Hy.2.1 rfl) rfl (zroom Hy.2.2 ⟨by decide, by decide⟩) rfl (by decide +kernel) ⟨Nat.zero_le _, Nat.zero_le _⟩ ?_
      refine zif_eq Hy.1 (off := 7) (tgt := 72) (by decide +kernel) (by decide) (fun hb6 => ?_) (fun hb6 => ?_)
      · replace h := zite_t h hb6
        refine zblq Hy.1 Hy.2.1 [(.iconst 0, 1)] (S' := (73, [(0, .inr (.inr (some (11, 0)))), (1, .inl x1), (2, .inl x2), (3, .inr (.inr (some (2, r2))))], [.inl (0 : Int32)], zfC M5)) (b := true) (by decide +kernel) rfl rfl ?_
        cases h
        exact zret_i Hy.1 Hy.2.2 hE (by decide +kernel)
      · replace h := zite_f h hb6
        refine zblq Hy.1 Hy.2.1 [(.iconst 1, 1), (.ldc 73, 3)] (S' := (73, [(0, .inr (.inr (some (11, 0)))), (1, .inl x1), (2, .inl x2), (3, .inr (.inr (some (2, r2))))], [.inl (1 : Int32)], zfC M5)) (b := true) (by decide +kernel) rfl rfl ?_
        cases h
        exact zret_i Hy.1 Hy.2.2 hE (by decide +kernel)
    replace h := zite_f h hs3_1
    by_cases hs3_2 : x2 = (2 : Int32)
    · replace h := zite_t h hs3_2
      refine zsw_in Hy.1 (v := 2) (tgt := 74) (off := 50) hs3_2 hd3 (by decide +kernel) (by decide) ?_
      obtain ⟨hg7, h⟩ := zgd_inv h
      refine zblq Hy.1 Hy.2.1 [(.aload 3, 1), (.multianewarray 2 18, 3)] (S' := (78, [(0, .inr (.inr (some (11, 0)))), (1, .inl x1), (2, .inl x2), (3, .inr (.inr (some (2, r2))))], [.inl (cg M2 2 r2 18)], zfC M2)) (b := Nat.blt r2 10 && true) (by decide +kernel) rfl hg7 ?_
      cases h
      exact zret_i Hy.1 Hy.2.2 hE (by decide +kernel)
    replace h := zite_f h hs3_2
    refine zsw_out Hy.1 hd3 (zsw_far 3 (by decide) (fun j hj => match j, hj with | 0, _ => hs3_0 | 1, _ => hs3_1 | 2, _ => hs3_2)) (by decide : (24 : Int) + 55 = (79 : Int)) ?_
    refine zblq Hy.1 Hy.2.1 [(.iconst (-3), 2)] (S' := (81, [(0, .inr (.inr (some (11, 0)))), (1, .inl x1), (2, .inl x2), (3, .inr (.inr (some (2, r2))))], [.inl (-3 : Int32)], zfC M2)) (b := true) (by decide +kernel) rfl rfl ?_
    cases h
    exact zret_i Hy.1 Hy.2.2 hE (by decide +kernel)
  · replace h := zite_t h hb8
    refine zblq Hy.1 Hy.2.1 [(.iconst (-2), 2)] (S' := (13, [(0, .inr (.inr (some (11, 0)))), (1, .inl x1), (2, .inl x2)], [.inl (-2 : Int32)], zfC M1)) (b := true) (by decide +kernel) rfl rfl ?_
    cases h
    exact zret_i Hy.1 Hy.2.2 hE (by decide +kernel)
theorem m11_has_met {l : Launch} {G : zG} (hG : zGok G) (hcn : zgcn G = zcC) {x1 : Int32} {x2 : Int32} {M : cM} {r : Int32} {M' : cM} (h : m11_has x1 x2 M = some (r, M')) : zMet l G yX11_has cX11_has 4 (some .int) 3 65 [.inr (.inr (some (11, 0))), .inl x1, .inl x2] (zfC M) (some (.inl r)) (zfC M') :=
  zMet_of hG tbX11_ok rfl (by decide +kernel) (Nat.le_of_ble_eq_true rfl) (fun X _ Z hA hE => m11_has_ok ⟨Z, hcn, hA⟩ hE x1 x2 M h)
abbrev q6_beginIn : ByteArray × Nat × String × zT := (cX6_beginIn, 4, RX6, tbX6)
def m6_beginIn_92 (k57 : Int32 → Int32 → cM → Option (Int32 × cM)) (x2 : Int32) (x3 : Int32) (M : cM) : Option (Int32 × cM) := k57 x2 (x3 + (1 : Int32)) M
theorem m6_beginIn_92_ok {X : zX} {G : zG} (Hy : zHy X G q6_beginIn zcC 3 65 (some .int)) {r : Int32} {M' : cM} (hE : zEnd X G (some (.inl r)) (zfC M')) {k57 : Int32 → Int32 → cM → Option (Int32 × cM)} (hk57 : ∀ (x2 : Int32) (x3 : Int32) (M : cM), k57 x2 x3 M = some (r, M') → zGo (X, q6_beginIn, G) 0 0 (57, [(0, .inr (.inr (some (6, 0)))), (2, .inl x2), (3, .inl x3)], [], zfC M)) (x2 : Int32) (x3 : Int32) (M : cM) (h : m6_beginIn_92 k57 x2 x3 M = some (r, M')) : zGo (X, q6_beginIn, G) 0 0 (92, [(0, .inr (.inr (some (6, 0)))), (2, .inl x2), (3, .inl x3)], [], zfC M) := by
  unfold m6_beginIn_92 at h
  refine zblq Hy.1 Hy.2.1 [(.iinc 3 1, 3), (.ldc 57, 3)] (S' := (57, [(0, .inr (.inr (some (6, 0)))), (2, .inl x2), (3, .inl (x3 + (1 : Int32)))], [], zfC M)) (b := true) (by decide +kernel) rfl rfl ?_
  refine zGo_keep [0, 2, 3] rfl ?_
  exact hk57 x2 (x3 + (1 : Int32)) M h
def m6_beginIn_57 : Nat → Int32 → Int32 → cM → Option (Int32 × cM)
  | 0, _, _, _ => none
  | n + 1, x2, x3, M => (if (cg M 3 0 4) ≤ x3 then zbd (mJ6_bitCount x2 M) (fun r2 M2 => some (r2, M2)) else (if ((zshr x2 x3) &&& (1 : Int32)) = (1 : Int32) then zbd (m3_of x3 M) (fun r3 M3 => zgd ((Nat.blt r3 10 && true) && true) (m6_beginIn_92 (m6_beginIn_57 n) x2 x3 (cs M3 2 r3 18 (cg M3 6 0 1)))) else m6_beginIn_92 (m6_beginIn_57 n) x2 x3 M))
theorem m6_beginIn_57_ok {X : zX} {G : zG} (Hy : zHy X G q6_beginIn zcC 3 65 (some .int)) {r : Int32} {M' : cM} (hE : zEnd X G (some (.inl r)) (zfC M')) : ∀ (n : Nat) (x2 : Int32) (x3 : Int32) (M : cM), m6_beginIn_57 n x2 x3 M = some (r, M') → zGo (X, q6_beginIn, G) 0 0 (57, [(0, .inr (.inr (some (6, 0)))), (2, .inl x2), (3, .inl x3)], [], zfC M) := by
  intro n
  induction n with
  | zero => intro x2 x3 M h; cases h
  | succ n ih =>
    intro x2 x3 M h
    unfold m6_beginIn_57 at h
    refine zblq Hy.1 Hy.2.1 [(.iload 3, 1), (.aload 0, 1), (.getfield 600, 3), (.multianewarray 3 4, 3)] (S' := (65, [(0, .inr (.inr (some (6, 0)))), (2, .inl x2), (3, .inl x3)], [.inl (cg M 3 0 4), .inl x3], zfC M)) (b := true) (by decide +kernel) rfl rfl ?_
    refine zic_ge Hy.1 (off := 33) (tgt := 98) (by decide +kernel) (by decide) (fun hb6 => ?_) (fun hb6 => ?_)
    · replace h := zite_t h hb6
      refine zblq Hy.1 Hy.2.1 [(.iload 2, 1)] (S' := (99, [(0, .inr (.inr (some (6, 0)))), (2, .inl x2), (3, .inl x3)], [.inl x2], zfC M)) (b := true) (by decide +kernel) rfl rfl ?_
      obtain ⟨r2, M2, hc2, h⟩ := zbd_inv h
      refine zcallS Hy.1 (as := [.inl x2]) (st := []) (mJ6_bitCount_met (zOK_G Hy.1) Hy.2.1 hc2) cw6_87 mJ6_bitCount_in rfl (zroom Hy.2.2 ⟨by decide, by decide⟩) rfl (by decide +kernel) ⟨Nat.zero_le _, Nat.zero_le _⟩ ?_
      cases h
      exact zret_i Hy.1 Hy.2.2 hE (by decide +kernel)
    · replace h := zite_f h hb6
      refine zblq Hy.1 Hy.2.1 [(.iload 2, 1), (.iload 3, 1), (.ishr, 1), (.iconst 1, 1), (.iand, 1), (.iconst 1, 1)] (S' := (74, [(0, .inr (.inr (some (6, 0)))), (2, .inl x2), (3, .inl x3)], [.inl (1 : Int32), .inl ((zshr x2 x3) &&& (1 : Int32))], zfC M)) (b := true) (by decide +kernel) rfl rfl ?_
      refine zic_ne Hy.1 (off := 18) (tgt := 92) (by decide +kernel) (by decide) (fun hb5 => ?_) (fun hb5 => ?_)
      · replace h := zite_f h hb5
        refine zGo_keep [0, 2, 3] rfl ?_
        exact m6_beginIn_92_ok Hy hE ih x2 x3 M h
      · replace h := zite_t h hb5
        refine zblq Hy.1 Hy.2.1 [(.aload 0, 1), (.getfield 600, 3), (.iload 3, 1)] (S' := (82, [(0, .inr (.inr (some (6, 0)))), (2, .inl x2), (3, .inl x3)], [.inl x3, .inr (.inr (some (3, 0)))], zfC M)) (b := true) (by decide +kernel) rfl rfl ?_
        obtain ⟨r3, M3, hc3, h⟩ := zbd_inv h
        refine zcallV Hy.1 (as := [.inl x3]) (st := []) (m3_of_met (zOK_G Hy.1) Hy.2.1 hc3) cw6_29 m3_of_in m3_of_se (by decide) (zhlv Hy.2.1 rfl) rfl (zroom Hy.2.2 ⟨by decide, by decide⟩) rfl (by decide +kernel) ⟨Nat.zero_le _, Nat.zero_le _⟩ ?_
        obtain ⟨hg4, h⟩ := zgd_inv h
        refine zblq Hy.1 Hy.2.1 [(.aload 0, 1), (.multianewarray 6 1, 3), (.invokeinterface 2 18, 3)] (S' := (92, [(0, .inr (.inr (some (6, 0)))), (2, .inl x2), (3, .inl x3)], [], zfC (cs M3 2 r3 18 (cg M3 6 0 1)))) (b := (Nat.blt r3 10 && true) && true) (by decide +kernel) rfl hg4 ?_
        refine zGo_keep [0, 2, 3] rfl ?_
        exact m6_beginIn_92_ok Hy hE ih x2 x3 (cs M3 2 r3 18 (cg M3 6 0 1)) h
def m6_beginIn_49 (k12 : Int32 → Int32 → cM → Option (Int32 × cM)) (x2 : Int32) (x3 : Int32) (M : cM) : Option (Int32 × cM) := k12 x2 (x3 + (1 : Int32)) M
theorem m6_beginIn_49_ok {X : zX} {G : zG} (Hy : zHy X G q6_beginIn zcC 3 65 (some .int)) {r : Int32} {M' : cM} (hE : zEnd X G (some (.inl r)) (zfC M')) {k12 : Int32 → Int32 → cM → Option (Int32 × cM)} (hk12 : ∀ (x2 : Int32) (x3 : Int32) (M : cM), k12 x2 x3 M = some (r, M') → zGo (X, q6_beginIn, G) 0 0 (12, [(0, .inr (.inr (some (6, 0)))), (2, .inl x2), (3, .inl x3)], [], zfC M)) (x2 : Int32) (x3 : Int32) (M : cM) (h : m6_beginIn_49 k12 x2 x3 M = some (r, M')) : zGo (X, q6_beginIn, G) 0 0 (49, [(0, .inr (.inr (some (6, 0)))), (2, .inl x2), (3, .inl x3)], [], zfC M) := by
  unfold m6_beginIn_49 at h
  refine zblq Hy.1 Hy.2.1 [(.iinc 3 1, 3), (.ldc 12, 3)] (S' := (12, [(0, .inr (.inr (some (6, 0)))), (2, .inl x2), (3, .inl (x3 + (1 : Int32)))], [], zfC M)) (b := true) (by decide +kernel) rfl rfl ?_
  refine zGo_keep [0, 2, 3] rfl ?_
  exact hk12 x2 (x3 + (1 : Int32)) M h
def m6_beginIn_12 : Nat → Int32 → Int32 → cM → Option (Int32 × cM)
  | 0, _, _, _ => none
  | n + 1, x2, x3, M => (if (cg M 3 0 4) ≤ x3 then m6_beginIn_57 zfu x2 (0 : Int32) M else (if ((zshr x2 x3) &&& (1 : Int32)) = (1 : Int32) then zbd (m3_of x3 M) (fun r7 M7 => zbd (m6_isSound r7 M7) (fun r8 M8 => (if r8 = 0 then some ((0 : Int32), M8) else m6_beginIn_49 (m6_beginIn_12 n) x2 x3 M8))) else m6_beginIn_49 (m6_beginIn_12 n) x2 x3 M))
theorem m6_beginIn_12_ok {X : zX} {G : zG} (Hy : zHy X G q6_beginIn zcC 3 65 (some .int)) {r : Int32} {M' : cM} (hE : zEnd X G (some (.inl r)) (zfC M')) : ∀ (n : Nat) (x2 : Int32) (x3 : Int32) (M : cM), m6_beginIn_12 n x2 x3 M = some (r, M') → zGo (X, q6_beginIn, G) 0 0 (12, [(0, .inr (.inr (some (6, 0)))), (2, .inl x2), (3, .inl x3)], [], zfC M) := by
  intro n
  induction n with
  | zero => intro x2 x3 M h; cases h
  | succ n ih =>
    intro x2 x3 M h
    unfold m6_beginIn_12 at h
    refine zblq Hy.1 Hy.2.1 [(.iload 3, 1), (.aload 0, 1), (.getfield 600, 3), (.multianewarray 3 4, 3)] (S' := (20, [(0, .inr (.inr (some (6, 0)))), (2, .inl x2), (3, .inl x3)], [.inl (cg M 3 0 4), .inl x3], zfC M)) (b := true) (by decide +kernel) rfl rfl ?_
    refine zic_ge Hy.1 (off := 35) (tgt := 55) (by decide +kernel) (by decide) (fun hb11 => ?_) (fun hb11 => ?_)
    · replace h := zite_t h hb11
      refine zblq Hy.1 Hy.2.1 [(.iconst 0, 1), (.istore 3, 1)] (S' := (57, [(0, .inr (.inr (some (6, 0)))), (2, .inl x2), (3, .inl (0 : Int32))], [], zfC M)) (b := true) (by decide +kernel) rfl rfl ?_
      refine zGo_keep [0, 2, 3] rfl ?_
      exact m6_beginIn_57_ok Hy hE zfu x2 (0 : Int32) M h
    · replace h := zite_f h hb11
      refine zblq Hy.1 Hy.2.1 [(.iload 2, 1), (.iload 3, 1), (.ishr, 1), (.iconst 1, 1), (.iand, 1), (.iconst 1, 1)] (S' := (29, [(0, .inr (.inr (some (6, 0)))), (2, .inl x2), (3, .inl x3)], [.inl (1 : Int32), .inl ((zshr x2 x3) &&& (1 : Int32))], zfC M)) (b := true) (by decide +kernel) rfl rfl ?_
      refine zic_ne Hy.1 (off := 20) (tgt := 49) (by decide +kernel) (by decide) (fun hb10 => ?_) (fun hb10 => ?_)
      · replace h := zite_f h hb10
        refine zGo_keep [0, 2, 3] rfl ?_
        exact m6_beginIn_49_ok Hy hE ih x2 x3 M h
      · replace h := zite_t h hb10
        refine zblq Hy.1 Hy.2.1 [(.aload 0, 1), (.aload 0, 1), (.getfield 600, 3), (.iload 3, 1)] (S' := (38, [(0, .inr (.inr (some (6, 0)))), (2, .inl x2), (3, .inl x3)], [.inl x3, .inr (.inr (some (3, 0))), .inr (.inr (some (6, 0)))], zfC M)) (b := true) (by decide +kernel) rfl rfl ?_
        obtain ⟨r7, M7, hc7, h⟩ := zbd_inv h
        refine zcallV Hy.1 (as := [.inl x3]) (st := [.inr (.inr (some (6, 0)))]) (m3_of_met (zOK_G Hy.1) Hy.2.1 hc7) cw6_29 m3_of_in m3_of_se (by decide) (zhlv Hy.2.1 rfl) rfl (zroom Hy.2.2 ⟨by decide, by decide⟩) rfl (by decide +kernel) ⟨Nat.zero_le _, Nat.zero_le _⟩ ?_
        obtain ⟨r8, M8, hc8, h⟩ := zbd_inv h
        refine zcallV Hy.1 (as := [.inr (.inr (some (2, r7)))]) (st := []) (m6_isSound_met (zOK_G Hy.1) Hy.2.1 hc8) cw6_80 m6_isSound_in m6_isSound_se (by decide) (zhlv Hy.2.1 rfl) rfl (zroom Hy.2.2 ⟨by decide, by decide⟩) rfl (by decide +kernel) ⟨Nat.zero_le _, Nat.zero_le _⟩ ?_
        refine zif_ne Hy.1 (off := 5) (tgt := 49) (by decide +kernel) (by decide) (fun hb9 => ?_) (fun hb9 => ?_)
        · replace h := zite_f h hb9
          refine zGo_keep [0, 2, 3] rfl ?_
          exact m6_beginIn_49_ok Hy hE ih x2 x3 M8 h
        · replace h := zite_t h hb9
          refine zblq Hy.1 Hy.2.1 [(.iconst 0, 1)] (S' := (48, [(0, .inr (.inr (some (6, 0)))), (2, .inl x2), (3, .inl x3)], [.inl (0 : Int32)], zfC M8)) (b := true) (by decide +kernel) rfl rfl ?_
          cases h
          exact zret_i Hy.1 Hy.2.2 hE (by decide +kernel)
def m6_beginIn (x1 : Int32) (M : cM) : Option (Int32 × cM) := zbd (m3_living M) (fun r1 M1 => m6_beginIn_12 zfu (x1 &&& r1) (0 : Int32) M1)
theorem m6_beginIn_ok {X : zX} {G : zG} (Hy : zHy X G q6_beginIn zcC 3 65 (some .int)) {r : Int32} {M' : cM} (hE : zEnd X G (some (.inl r)) (zfC M')) (x1 : Int32) (M : cM) (h : m6_beginIn x1 M = some (r, M')) : zGo (X, q6_beginIn, G) 0 0 (0, [(0, .inr (.inr (some (6, 0)))), (1, .inl x1)], [], zfC M) := by
  unfold m6_beginIn at h
  refine zblq Hy.1 Hy.2.1 [(.iload 1, 1), (.aload 0, 1), (.getfield 600, 3)] (S' := (5, [(0, .inr (.inr (some (6, 0)))), (1, .inl x1)], [.inr (.inr (some (3, 0))), .inl x1], zfC M)) (b := true) (by decide +kernel) rfl rfl ?_
  obtain ⟨r1, M1, hc1, h⟩ := zbd_inv h
  refine zcallV Hy.1 (as := []) (st := [.inl x1]) (m3_living_met (zOK_G Hy.1) Hy.2.1 hc1) cw6_55 m3_living_in m3_living_se (by decide) (zhlv Hy.2.1 rfl) rfl (zroom Hy.2.2 ⟨by decide, by decide⟩) rfl (by decide +kernel) ⟨Nat.zero_le _, Nat.zero_le _⟩ ?_
  refine zblq Hy.1 Hy.2.1 [(.iand, 1), (.istore 2, 1), (.iconst 0, 1), (.istore 3, 1)] (S' := (12, [(0, .inr (.inr (some (6, 0)))), (1, .inl x1), (2, .inl (x1 &&& r1)), (3, .inl (0 : Int32))], [], zfC M1)) (b := true) (by decide +kernel) rfl rfl ?_
  refine zGo_keep [0, 2, 3] rfl ?_
  exact m6_beginIn_12_ok Hy hE zfu (x1 &&& r1) (0 : Int32) M1 h
theorem m6_beginIn_met {l : Launch} {G : zG} (hG : zGok G) (hcn : zgcn G = zcC) {x1 : Int32} {M : cM} {r : Int32} {M' : cM} (h : m6_beginIn x1 M = some (r, M')) : zMet l G yX6_beginIn cX6_beginIn 4 (some .int) 3 65 [.inr (.inr (some (6, 0))), .inl x1] (zfC M) (some (.inl r)) (zfC M') :=
  zMet_of hG tbX6_ok rfl (by decide +kernel) (Nat.le_of_ble_eq_true rfl) (fun X _ Z hA hE => m6_beginIn_ok ⟨Z, hcn, hA⟩ hE x1 M h)
abbrev q11_begin : ByteArray × Nat × String × zT := (cX11_begin, 2, RX11, tbX11)
def m11_begin (x1 : Int32) (M : cM) : Option (Int32 × cM) := zbd (m11_outside x1 (0 : Int32) ((zshl (1 : Int32) (cg M 3 0 4)) - (1 : Int32)) M) (fun r1 M1 => (if r1 = 0 then (if (cg M1 6 0 1) = 0 then some ((-4 : Int32), M1) else zbd (m6_beginIn x1 M1) (fun r2 M2 => some (r2, M2))) else some ((-3 : Int32), M1)))
theorem m11_begin_ok {X : zX} {G : zG} (Hy : zHy X G q11_begin zcC 4 88 (some .int)) {r : Int32} {M' : cM} (hE : zEnd X G (some (.inl r)) (zfC M')) (x1 : Int32) (M : cM) (h : m11_begin x1 M = some (r, M')) : zGo (X, q11_begin, G) 0 0 (0, [(0, .inr (.inr (some (11, 0)))), (1, .inl x1)], [], zfC M) := by
  unfold m11_begin at h
  refine zblq Hy.1 Hy.2.1 [(.iload 1, 1), (.iconst 0, 1), (.iconst 1, 1), (.aload 0, 1), (.getfield 1100, 3), (.multianewarray 3 4, 3), (.ishl, 1), (.iconst 1, 1), (.isub, 1)] (S' := (13, [(0, .inr (.inr (some (11, 0)))), (1, .inl x1)], [.inl ((zshl (1 : Int32) (cg M 3 0 4)) - (1 : Int32)), .inl (0 : Int32), .inl x1], zfC M)) (b := true) (by decide +kernel) rfl rfl ?_
  obtain ⟨r1, M1, hc1, h⟩ := zbd_inv h
  refine zcallS Hy.1 (as := [.inl x1, .inl (0 : Int32), .inl ((zshl (1 : Int32) (cg M 3 0 4)) - (1 : Int32))]) (st := []) (m11_outside_met (zOK_G Hy.1) Hy.2.1 hc1) cw11_66 m11_outside_in rfl (zroom Hy.2.2 ⟨by decide, by decide⟩) rfl (by decide +kernel) ⟨Nat.zero_le _, Nat.zero_le _⟩ ?_
  refine zif_eq Hy.1 (off := 6) (tgt := 22) (by decide +kernel) (by decide) (fun hb4 => ?_) (fun hb4 => ?_)
  · replace h := zite_t h hb4
    refine zblq Hy.1 Hy.2.1 [(.aload 0, 1), (.getfield 1105, 3), (.multianewarray 6 1, 3)] (S' := (29, [(0, .inr (.inr (some (11, 0)))), (1, .inl x1)], [.inl (cg M1 6 0 1)], zfC M1)) (b := true) (by decide +kernel) rfl rfl ?_
    refine zif_ne Hy.1 (off := 6) (tgt := 35) (by decide +kernel) (by decide) (fun hb3 => ?_) (fun hb3 => ?_)
    · replace h := zite_f h hb3
      refine zblq Hy.1 Hy.2.1 [(.aload 0, 1), (.getfield 1105, 3), (.iload 1, 1)] (S' := (40, [(0, .inr (.inr (some (11, 0)))), (1, .inl x1)], [.inl x1, .inr (.inr (some (6, 0)))], zfC M1)) (b := true) (by decide +kernel) rfl rfl ?_
      obtain ⟨r2, M2, hc2, h⟩ := zbd_inv h
      refine zcallV Hy.1 (as := [.inl x1]) (st := []) (m6_beginIn_met (zOK_G Hy.1) Hy.2.1 hc2) cw11_291 m6_beginIn_in m6_beginIn_se (by decide) (zhlv Hy.2.1 rfl) rfl (zroom Hy.2.2 ⟨by decide, by decide⟩) rfl (by decide +kernel) ⟨Nat.zero_le _, Nat.zero_le _⟩ ?_
      cases h
      exact zret_i Hy.1 Hy.2.2 hE (by decide +kernel)
    · replace h := zite_t h hb3
      refine zblq Hy.1 Hy.2.1 [(.iconst (-4), 2)] (S' := (34, [(0, .inr (.inr (some (11, 0)))), (1, .inl x1)], [.inl (-4 : Int32)], zfC M1)) (b := true) (by decide +kernel) rfl rfl ?_
      cases h
      exact zret_i Hy.1 Hy.2.2 hE (by decide +kernel)
  · replace h := zite_f h hb4
    refine zblq Hy.1 Hy.2.1 [(.iconst (-3), 2)] (S' := (21, [(0, .inr (.inr (some (11, 0)))), (1, .inl x1)], [.inl (-3 : Int32)], zfC M1)) (b := true) (by decide +kernel) rfl rfl ?_
    cases h
    exact zret_i Hy.1 Hy.2.2 hE (by decide +kernel)
theorem m11_begin_met {l : Launch} {G : zG} (hG : zGok G) (hcn : zgcn G = zcC) {x1 : Int32} {M : cM} {r : Int32} {M' : cM} (h : m11_begin x1 M = some (r, M')) : zMet l G yX11_begin cX11_begin 2 (some .int) 4 88 [.inr (.inr (some (11, 0))), .inl x1] (zfC M) (some (.inl r)) (zfC M') :=
  zMet_of hG tbX11_ok rfl (by decide +kernel) (Nat.le_of_ble_eq_true rfl) (fun X _ Z hA hE => m11_begin_ok ⟨Z, hcn, hA⟩ hE x1 M h)
abbrev qJ7_fill_504 : ByteArray × Nat × String × zT := (cJ7_fill_53178, 4, RJ7, tbJ7)
def mJ7_fill_504_5 : Nat → Int32 → Int32 → Int32 → cM → Option cM
  | 0, _, _, _, _ => none
  | n + 1, x1, x2, x3, M => (if x3 ≤ x2 then some M else zgd (zin x2 30 && true) ((mJ7_fill_504_5 n) x1 (x2 + (1 : Int32)) x3 (cs M 504 0 (nx x2) x1)))
theorem mJ7_fill_504_5_ok {X : zX} {G : zG} (Hy : zHy X G qJ7_fill_504 zcC 0 0 (none)) {M' : cM} (hE : zEnd X G (none) (zfC M')) : ∀ (n : Nat) (x1 : Int32) (x2 : Int32) (x3 : Int32) (M : cM), mJ7_fill_504_5 n x1 x2 x3 M = some M' → zGo (X, qJ7_fill_504, G) 0 0 (5, [(0, .inr (.inr (some (504, 0)))), (1, .inl x1), (2, .inl x2), (3, .inl x3)], [], zfC M) := by
  intro n
  induction n with
  | zero => intro x1 x2 x3 M h; cases h
  | succ n ih =>
    intro x1 x2 x3 M h
    unfold mJ7_fill_504_5 at h
    refine zblq Hy.1 Hy.2.1 [(.iload 2, 1), (.iload 3, 1)] (S' := (7, [(0, .inr (.inr (some (504, 0)))), (1, .inl x1), (2, .inl x2), (3, .inl x3)], [.inl x3, .inl x2], zfC M)) (b := true) (by decide +kernel) rfl rfl ?_
    refine zic_ge Hy.1 (off := 13) (tgt := 20) (by decide +kernel) (by decide) (fun hb2 => ?_) (fun hb2 => ?_)
    · replace h := zite_t h hb2
      cases h
      exact zret_v Hy.1 Hy.2.2 hE (by decide +kernel)
    · replace h := zite_f h hb2
      obtain ⟨hg1, h⟩ := zgd_inv h
      refine zblq Hy.1 Hy.2.1 [(.aload 0, 1), (.iload 2, 1), (.iload 1, 1), (.iastore, 1), (.iinc 2 1, 3), (.ldc 5, 3)] (S' := (5, [(0, .inr (.inr (some (504, 0)))), (1, .inl x1), (2, .inl (x2 + (1 : Int32))), (3, .inl x3)], [], zfC (cs M 504 0 (nx x2) x1))) (b := zin x2 30 && true) (by decide +kernel) rfl hg1 ?_
      refine zGo_keep [0, 1, 2, 3] rfl ?_
      exact ih x1 (x2 + (1 : Int32)) x3 (cs M 504 0 (nx x2) x1) h
def mJ7_fill_504 (x1 : Int32) (M : cM) : Option cM := mJ7_fill_504_5 zfu x1 (0 : Int32) (30 : Int32) M
theorem mJ7_fill_504_ok {X : zX} {G : zG} (Hy : zHy X G qJ7_fill_504 zcC 0 0 (none)) {M' : cM} (hE : zEnd X G (none) (zfC M')) (x1 : Int32) (M : cM) (h : mJ7_fill_504 x1 M = some M') : zGo (X, qJ7_fill_504, G) 0 0 (0, [(0, .inr (.inr (some (504, 0)))), (1, .inl x1)], [], zfC M) := by
  unfold mJ7_fill_504 at h
  refine zblq Hy.1 Hy.2.1 [(.iconst 0, 1), (.istore 2, 1), (.aload 0, 1), (.arraylength, 1), (.istore 3, 1)] (S' := (5, [(0, .inr (.inr (some (504, 0)))), (1, .inl x1), (2, .inl (0 : Int32)), (3, .inl (30 : Int32))], [], zfC M)) (b := true) (by decide +kernel) rfl rfl ?_
  refine zGo_keep [0, 1, 2, 3] rfl ?_
  exact mJ7_fill_504_5_ok Hy hE zfu x1 (0 : Int32) (30 : Int32) M h
theorem mJ7_fill_504_met {l : Launch} {G : zG} (hG : zGok G) (hcn : zgcn G = zcC) {x1 : Int32} {M : cM} {M' : cM} (h : mJ7_fill_504 x1 M = some M') : zMet l G yJ7_fill_53178 cJ7_fill_53178 4 (none) 0 0 [.inr (.inr (some (504, 0))), .inl x1] (zfC M) (none) (zfC M') :=
  zMet_ofF hG tbJ7_ok rfl (by decide +kernel) (Nat.le_of_ble_eq_true rfl) (fun X _ Z hA hE => mJ7_fill_504_ok ⟨Z, hcn, hA⟩ hE x1 M h)
abbrev q4_sitFor : ByteArray × Nat × String × zT := (cX4_sitFor, 2, RX4, tbX4)
def m4_sitFor (x1 : Int32) (M : cM) : Option cM := zbv (mJ7_fill_504 (2 : Int32) (cs M 4 0 1 x1)) (fun M1 => some M1)
theorem m4_sitFor_ok {X : zX} {G : zG} (Hy : zHy X G q4_sitFor zcC 1 23 (none)) {M' : cM} (hE : zEnd X G (none) (zfC M')) (x1 : Int32) (M : cM) (h : m4_sitFor x1 M = some M') : zGo (X, q4_sitFor, G) 0 0 (0, [(0, .inr (.inr (some (4, 0)))), (1, .inl x1)], [], zfC M) := by
  unfold m4_sitFor at h
  refine zblq Hy.1 Hy.2.1 [(.aload 0, 1), (.iload 1, 1), (.invokeinterface 4 1, 3), (.aload 0, 1), (.getfield 404, 3), (.iconst 2, 1)] (S' := (10, [(0, .inr (.inr (some (4, 0)))), (1, .inl x1)], [.inl (2 : Int32), .inr (.inr (some (504, 0)))], zfC (cs M 4 0 1 x1))) (b := true) (by decide +kernel) rfl rfl ?_
  obtain ⟨M1, hc1, h⟩ := zbv_inv h
  refine zcallS Hy.1 (as := [.inr (.inr (some (504, 0))), .inl (2 : Int32)]) (st := []) (mJ7_fill_504_met (zOK_G Hy.1) Hy.2.1 hc1) cw4_50 mJ7_fill_in rfl (zroom Hy.2.2 ⟨by decide, by decide⟩) rfl (by decide +kernel) ⟨Nat.zero_le _, Nat.zero_le _⟩ ?_
  cases h
  exact zret_v Hy.1 Hy.2.2 hE (by decide +kernel)
theorem m4_sitFor_met {l : Launch} {G : zG} (hG : zGok G) (hcn : zgcn G = zcC) {x1 : Int32} {M : cM} {M' : cM} (h : m4_sitFor x1 M = some M') : zMet l G yX4_sitFor cX4_sitFor 2 (none) 1 23 [.inr (.inr (some (4, 0))), .inl x1] (zfC M) (none) (zfC M') :=
  zMet_of hG tbX4_ok rfl (by decide +kernel) (Nat.le_of_ble_eq_true rfl) (fun X _ Z hA hE => m4_sitFor_ok ⟨Z, hcn, hA⟩ hE x1 M h)
abbrev q11_days : ByteArray × Nat × String × zT := (cX11_days, 3, RX11, tbX11)
def m11_days (x1 : Int32) (M : cM) : Option (Int32 × cM) := zbd (m11_outside x1 (1 : Int32) (5 : Int32) M) (fun r1 M1 => (if r1 = 0 then zbv (m4_sitFor x1 M1) (fun M2 => some (cg M1 4 0 1, M2)) else some ((-3 : Int32), M1)))
theorem m11_days_ok {X : zX} {G : zG} (Hy : zHy X G q11_days zcC 2 44 (some .int)) {r : Int32} {M' : cM} (hE : zEnd X G (some (.inl r)) (zfC M')) (x1 : Int32) (M : cM) (h : m11_days x1 M = some (r, M')) : zGo (X, q11_days, G) 0 0 (0, [(0, .inr (.inr (some (11, 0)))), (1, .inl x1)], [], zfC M) := by
  unfold m11_days at h
  refine zblq Hy.1 Hy.2.1 [(.iload 1, 1), (.iconst 1, 1), (.iconst 5, 1)] (S' := (3, [(0, .inr (.inr (some (11, 0)))), (1, .inl x1)], [.inl (5 : Int32), .inl (1 : Int32), .inl x1], zfC M)) (b := true) (by decide +kernel) rfl rfl ?_
  obtain ⟨r1, M1, hc1, h⟩ := zbd_inv h
  refine zcallS Hy.1 (as := [.inl x1, .inl (1 : Int32), .inl (5 : Int32)]) (st := []) (m11_outside_met (zOK_G Hy.1) Hy.2.1 hc1) cw11_66 m11_outside_in rfl (zroom Hy.2.2 ⟨by decide, by decide⟩) rfl (by decide +kernel) ⟨Nat.zero_le _, Nat.zero_le _⟩ ?_
  refine zif_eq Hy.1 (off := 6) (tgt := 12) (by decide +kernel) (by decide) (fun hb3 => ?_) (fun hb3 => ?_)
  · replace h := zite_t h hb3
    refine zblq Hy.1 Hy.2.1 [(.aload 0, 1), (.getfield 1106, 3), (.multianewarray 4 1, 3), (.istore 2, 1), (.aload 0, 1), (.getfield 1106, 3), (.iload 1, 1)] (S' := (25, [(0, .inr (.inr (some (11, 0)))), (1, .inl x1), (2, .inl (cg M1 4 0 1))], [.inl x1, .inr (.inr (some (4, 0)))], zfC M1)) (b := true) (by decide +kernel) rfl rfl ?_
    obtain ⟨M2, hc2, h⟩ := zbv_inv h
    refine zcallV Hy.1 (as := [.inl x1]) (st := []) (m4_sitFor_met (zOK_G Hy.1) Hy.2.1 hc2) cw11_297 m4_sitFor_in m4_sitFor_se (by decide) (zhlv Hy.2.1 rfl) rfl (zroom Hy.2.2 ⟨by decide, by decide⟩) rfl (by decide +kernel) ⟨Nat.zero_le _, Nat.zero_le _⟩ ?_
    refine zblq Hy.1 Hy.2.1 [(.iload 2, 1)] (S' := (29, [(0, .inr (.inr (some (11, 0)))), (1, .inl x1), (2, .inl (cg M1 4 0 1))], [.inl (cg M1 4 0 1)], zfC M2)) (b := true) (by decide +kernel) rfl rfl ?_
    cases h
    exact zret_i Hy.1 Hy.2.2 hE (by decide +kernel)
  · replace h := zite_f h hb3
    refine zblq Hy.1 Hy.2.1 [(.iconst (-3), 2)] (S' := (11, [(0, .inr (.inr (some (11, 0)))), (1, .inl x1)], [.inl (-3 : Int32)], zfC M1)) (b := true) (by decide +kernel) rfl rfl ?_
    cases h
    exact zret_i Hy.1 Hy.2.2 hE (by decide +kernel)
theorem m11_days_met {l : Launch} {G : zG} (hG : zGok G) (hcn : zgcn G = zcC) {x1 : Int32} {M : cM} {r : Int32} {M' : cM} (h : m11_days x1 M = some (r, M')) : zMet l G yX11_days cX11_days 3 (some .int) 2 44 [.inr (.inr (some (11, 0))), .inl x1] (zfC M) (some (.inl r)) (zfC M') :=
  zMet_of hG tbX11_ok rfl (by decide +kernel) (Nat.le_of_ble_eq_true rfl) (fun X _ Z hA hE => m11_days_ok ⟨Z, hcn, hA⟩ hE x1 M h)
abbrev q4_hasSpot : ByteArray × Nat × String × zT := (cX4_hasSpot, 2, RX4, tbX4)
def m4_hasSpot (x1 : Int32) (M : cM) : Option (Int32 × cM) := (if x1 < 0 then some ((0 : Int32), M) else (if (6 : Int32) ≤ x1 then some ((0 : Int32), M) else some ((1 : Int32), M)))
theorem m4_hasSpot_ok {X : zX} {G : zG} (Hy : zHy X G q4_hasSpot zcC 0 0 (some .boolean)) {r : Int32} {M' : cM} (hE : zEnd X G (some (.inl r)) (zfC M')) (x1 : Int32) (M : cM) (h : m4_hasSpot x1 M = some (r, M')) : zGo (X, q4_hasSpot, G) 0 0 (0, [(0, .inr (.inr (some (4, 0)))), (1, .inl x1)], [], zfC M) := by
  unfold m4_hasSpot at h
  refine zblq Hy.1 Hy.2.1 [(.iload 1, 1)] (S' := (1, [(0, .inr (.inr (some (4, 0)))), (1, .inl x1)], [.inl x1], zfC M)) (b := true) (by decide +kernel) rfl rfl ?_
  refine zif_lt Hy.1 (off := 13) (tgt := 14) (by decide +kernel) (by decide) (fun hb2 => ?_) (fun hb2 => ?_)
  · replace h := zite_t h hb2
    refine zblq Hy.1 Hy.2.1 [(.iconst 0, 1)] (S' := (15, [(0, .inr (.inr (some (4, 0)))), (1, .inl x1)], [.inl (0 : Int32)], zfC M)) (b := true) (by decide +kernel) rfl rfl ?_
    cases h
    exact zret_z Hy.1 Hy.2.2 (by decide) hE (by decide +kernel)
  · replace h := zite_f h hb2
    refine zblq Hy.1 Hy.2.1 [(.iload 1, 1), (.iconst 6, 2)] (S' := (7, [(0, .inr (.inr (some (4, 0)))), (1, .inl x1)], [.inl (6 : Int32), .inl x1], zfC M)) (b := true) (by decide +kernel) rfl rfl ?_
    refine zic_ge Hy.1 (off := 7) (tgt := 14) (by decide +kernel) (by decide) (fun hb1 => ?_) (fun hb1 => ?_)
    · replace h := zite_t h hb1
      refine zblq Hy.1 Hy.2.1 [(.iconst 0, 1)] (S' := (15, [(0, .inr (.inr (some (4, 0)))), (1, .inl x1)], [.inl (0 : Int32)], zfC M)) (b := true) (by decide +kernel) rfl rfl ?_
      cases h
      exact zret_z Hy.1 Hy.2.2 (by decide) hE (by decide +kernel)
    · replace h := zite_f h hb1
      refine zblq Hy.1 Hy.2.1 [(.iconst 1, 1), (.ldc 15, 3)] (S' := (15, [(0, .inr (.inr (some (4, 0)))), (1, .inl x1)], [.inl (1 : Int32)], zfC M)) (b := true) (by decide +kernel) rfl rfl ?_
      cases h
      exact zret_z Hy.1 Hy.2.2 (by decide) hE (by decide +kernel)
theorem m4_hasSpot_met {l : Launch} {G : zG} (hG : zGok G) (hcn : zgcn G = zcC) {x1 : Int32} {M : cM} {r : Int32} {M' : cM} (h : m4_hasSpot x1 M = some (r, M')) : zMet l G yX4_hasSpot cX4_hasSpot 2 (some .boolean) 0 0 [.inr (.inr (some (4, 0))), .inl x1] (zfC M) (some (.inl r)) (zfC M') :=
  zMet_of hG tbX4_ok rfl (by decide +kernel) (Nat.le_of_ble_eq_true rfl) (fun X _ Z hA hE => m4_hasSpot_ok ⟨Z, hcn, hA⟩ hE x1 M h)
