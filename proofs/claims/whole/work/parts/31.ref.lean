abbrev q12_in : ByteArray × Nat × String × zT := (cX12_in, 3, RX12, tbX12)
def m12_in (x0 : Int32) (x1 : Int32) (x2 : Int32) (M : rM) : Option (Int32 × rM) := (if x0 < x1 then some ((0 : Int32), M) else (if x2 < x0 then some ((0 : Int32), M) else some ((1 : Int32), M)))
theorem m12_in_ok {X : zX} {G : zG} (Hy : zHy X G q12_in zcR 0 0 (some .boolean)) {r : Int32} {M' : rM} (hE : zEnd X G (some (.inl r)) (zfR M')) (x0 : Int32) (x1 : Int32) (x2 : Int32) (M : rM) (h : m12_in x0 x1 x2 M = some (r, M')) : zGo (X, q12_in, G) 0 0 (0, [(0, .inl x0), (1, .inl x1), (2, .inl x2)], [], zfR M) := by
  unfold m12_in at h
  refine zblq Hy.1 Hy.2.1 [(.iload 0, 1), (.iload 1, 1)] (S' := (2, [(0, .inl x0), (1, .inl x1), (2, .inl x2)], [.inl x1, .inl x0], zfR M)) (b := true) (by decide +kernel) rfl rfl ?_
  refine zic_lt Hy.1 (off := 12) (tgt := 14) (by decide +kernel) (by decide) (fun hb2 => ?_) (fun hb2 => ?_)
  · replace h := zite_t h hb2
    refine zblq Hy.1 Hy.2.1 [(.iconst 0, 1)] (S' := (15, [(0, .inl x0), (1, .inl x1), (2, .inl x2)], [.inl (0 : Int32)], zfR M)) (b := true) (by decide +kernel) rfl rfl ?_
    cases h
    exact zret_z Hy.1 Hy.2.2 (by decide) hE (by decide +kernel)
  · replace h := zite_f h hb2
    refine zblq Hy.1 Hy.2.1 [(.iload 0, 1), (.iload 2, 1)] (S' := (7, [(0, .inl x0), (1, .inl x1), (2, .inl x2)], [.inl x2, .inl x0], zfR M)) (b := true) (by decide +kernel) rfl rfl ?_
    refine zic_gt Hy.1 (off := 7) (tgt := 14) (by decide +kernel) (by decide) (fun hb1 => ?_) (fun hb1 => ?_)
    · replace h := zite_t h hb1
      refine zblq Hy.1 Hy.2.1 [(.iconst 0, 1)] (S' := (15, [(0, .inl x0), (1, .inl x1), (2, .inl x2)], [.inl (0 : Int32)], zfR M)) (b := true) (by decide +kernel) rfl rfl ?_
      cases h
      exact zret_z Hy.1 Hy.2.2 (by decide) hE (by decide +kernel)
    · replace h := zite_f h hb1
      refine zblq Hy.1 Hy.2.1 [(.iconst 1, 1), (.ldc 15, 3)] (S' := (15, [(0, .inl x0), (1, .inl x1), (2, .inl x2)], [.inl (1 : Int32)], zfR M)) (b := true) (by decide +kernel) rfl rfl ?_
      cases h
      exact zret_z Hy.1 Hy.2.2 (by decide) hE (by decide +kernel)
theorem m12_in_met {l : Launch} {G : zG} (hG : zGok G) (hcn : zgcn G = zcR) {x0 : Int32} {x1 : Int32} {x2 : Int32} {M : rM} {r : Int32} {M' : rM} (h : m12_in x0 x1 x2 M = some (r, M')) : zMet l G yX12_in cX12_in 3 (some .boolean) 0 0 [.inl x0, .inl x1, .inl x2] (zfR M) (some (.inl r)) (zfR M') :=
  zMet_of hG tbX12_ok rfl (by decide +kernel) (Nat.le_of_ble_eq_true rfl) (fun X _ Z hA hE => m12_in_ok ⟨Z, hcn, hA⟩ hE x0 x1 x2 M h)
abbrev q12_isBox : ByteArray × Nat × String × zT := (cX12_isBox, 2, RX12, tbX12)
def m12_isBox (x1 : Int32) (M : rM) : Option (Int32 × rM) := zbd (m12_in x1 (0 : Int32) ((rg M 12 0 0) - (1 : Int32)) M) (fun r1 M1 => zgd (zbl r1) (some (r1, M1)))
theorem m12_isBox_ok {X : zX} {G : zG} (Hy : zHy X G q12_isBox zcR 1 22 (some .boolean)) {r : Int32} {M' : rM} (hE : zEnd X G (some (.inl r)) (zfR M')) (x1 : Int32) (M : rM) (h : m12_isBox x1 M = some (r, M')) : zGo (X, q12_isBox, G) 0 0 (0, [(0, .inr (.inr (some (12, 0)))), (1, .inl x1)], [], zfR M) := by
  unfold m12_isBox at h
  refine zblq Hy.1 Hy.2.1 [(.iload 1, 1), (.iconst 0, 1), (.aload 0, 1), (.multianewarray 12 0, 3), (.iconst 1, 1), (.isub, 1)] (S' := (8, [(0, .inr (.inr (some (12, 0)))), (1, .inl x1)], [.inl ((rg M 12 0 0) - (1 : Int32)), .inl (0 : Int32), .inl x1], zfR M)) (b := true) (by decide +kernel) rfl rfl ?_
  obtain ⟨r1, M1, hc1, h⟩ := zbd_inv h
  refine zcallS Hy.1 (as := [.inl x1, .inl (0 : Int32), .inl ((rg M 12 0 0) - (1 : Int32))]) (st := []) (m12_in_met (zOK_G Hy.1) Hy.2.1 hc1) cw12_171 m12_in_in rfl (zroom Hy.2.2 ⟨by decide, by decide⟩) rfl (by decide +kernel) ⟨Nat.zero_le _, Nat.zero_le _⟩ ?_
  obtain ⟨hg2, h⟩ := zgd_inv h
  cases h
  exact zret_z Hy.1 Hy.2.2 hg2 hE (by decide +kernel)
theorem m12_isBox_met {l : Launch} {G : zG} (hG : zGok G) (hcn : zgcn G = zcR) {x1 : Int32} {M : rM} {r : Int32} {M' : rM} (h : m12_isBox x1 M = some (r, M')) : zMet l G yX12_isBox cX12_isBox 2 (some .boolean) 1 22 [.inr (.inr (some (12, 0))), .inl x1] (zfR M) (some (.inl r)) (zfR M') :=
  zMet_of hG tbX12_ok rfl (by decide +kernel) (Nat.le_of_ble_eq_true rfl) (fun X _ Z hA hE => m12_isBox_ok ⟨Z, hcn, hA⟩ hE x1 M h)
abbrev q12_isIn : ByteArray × Nat × String × zT := (cX12_isIn, 2, RX12, tbX12)
def m12_isIn (x0 : Int32) (x1 : Int32) (M : rM) : Option (Int32 × rM) := (if ((zshr x0 x1) &&& (1 : Int32)) = (1 : Int32) then some ((1 : Int32), M) else some ((0 : Int32), M))
theorem m12_isIn_ok {X : zX} {G : zG} (Hy : zHy X G q12_isIn zcR 0 0 (some .boolean)) {r : Int32} {M' : rM} (hE : zEnd X G (some (.inl r)) (zfR M')) (x0 : Int32) (x1 : Int32) (M : rM) (h : m12_isIn x0 x1 M = some (r, M')) : zGo (X, q12_isIn, G) 0 0 (0, [(0, .inl x0), (1, .inl x1)], [], zfR M) := by
  unfold m12_isIn at h
  refine zblq Hy.1 Hy.2.1 [(.iload 0, 1), (.iload 1, 1), (.ishr, 1), (.iconst 1, 1), (.iand, 1), (.iconst 1, 1)] (S' := (6, [(0, .inl x0), (1, .inl x1)], [.inl (1 : Int32), .inl ((zshr x0 x1) &&& (1 : Int32))], zfR M)) (b := true) (by decide +kernel) rfl rfl ?_
  refine zic_ne Hy.1 (off := 7) (tgt := 13) (by decide +kernel) (by decide) (fun hb1 => ?_) (fun hb1 => ?_)
  · replace h := zite_f h hb1
    refine zblq Hy.1 Hy.2.1 [(.iconst 0, 1)] (S' := (14, [(0, .inl x0), (1, .inl x1)], [.inl (0 : Int32)], zfR M)) (b := true) (by decide +kernel) rfl rfl ?_
    cases h
    exact zret_z Hy.1 Hy.2.2 (by decide) hE (by decide +kernel)
  · replace h := zite_t h hb1
    refine zblq Hy.1 Hy.2.1 [(.iconst 1, 1), (.ldc 14, 3)] (S' := (14, [(0, .inl x0), (1, .inl x1)], [.inl (1 : Int32)], zfR M)) (b := true) (by decide +kernel) rfl rfl ?_
    cases h
    exact zret_z Hy.1 Hy.2.2 (by decide) hE (by decide +kernel)
theorem m12_isIn_met {l : Launch} {G : zG} (hG : zGok G) (hcn : zgcn G = zcR) {x0 : Int32} {x1 : Int32} {M : rM} {r : Int32} {M' : rM} (h : m12_isIn x0 x1 M = some (r, M')) : zMet l G yX12_isIn cX12_isIn 2 (some .boolean) 0 0 [.inl x0, .inl x1] (zfR M) (some (.inl r)) (zfR M') :=
  zMet_of hG tbX12_ok rfl (by decide +kernel) (Nat.le_of_ble_eq_true rfl) (fun X _ Z hA hE => m12_isIn_ok ⟨Z, hcn, hA⟩ hE x0 x1 M h)
abbrev q12_bits : ByteArray × Nat × String × zT := (cX12_bits, 3, RX12, tbX12)
def m12_bits_4 : Nat → Int32 → Int32 → Int32 → rM → Option (Int32 × rM)
  | 0, _, _, _, _ => none
  | n + 1, x0, x1, x2, M => (if (10 : Int32) ≤ x2 then some (x1, M) else (m12_bits_4 n) x0 (x1 + ((zshr x0 x2) &&& (1 : Int32))) (x2 + (1 : Int32)) M)
theorem m12_bits_4_ok {X : zX} {G : zG} (Hy : zHy X G q12_bits zcR 0 0 (some .int)) {r : Int32} {M' : rM} (hE : zEnd X G (some (.inl r)) (zfR M')) : ∀ (n : Nat) (x0 : Int32) (x1 : Int32) (x2 : Int32) (M : rM), m12_bits_4 n x0 x1 x2 M = some (r, M') → zGo (X, q12_bits, G) 0 0 (4, [(0, .inl x0), (1, .inl x1), (2, .inl x2)], [], zfR M) := by
  intro n
  induction n with
  | zero => intro x0 x1 x2 M h; cases h
  | succ n ih =>
    intro x0 x1 x2 M h
    unfold m12_bits_4 at h
    refine zblq Hy.1 Hy.2.1 [(.iload 2, 1), (.iconst 10, 2)] (S' := (7, [(0, .inl x0), (1, .inl x1), (2, .inl x2)], [.inl (10 : Int32), .inl x2], zfR M)) (b := true) (by decide +kernel) rfl rfl ?_
    refine zic_ge Hy.1 (off := 17) (tgt := 24) (by decide +kernel) (by decide) (fun hb1 => ?_) (fun hb1 => ?_)
    · replace h := zite_t h hb1
      refine zblq Hy.1 Hy.2.1 [(.iload 1, 1)] (S' := (25, [(0, .inl x0), (1, .inl x1), (2, .inl x2)], [.inl x1], zfR M)) (b := true) (by decide +kernel) rfl rfl ?_
      cases h
      exact zret_i Hy.1 Hy.2.2 hE (by decide +kernel)
    · replace h := zite_f h hb1
      refine zblq Hy.1 Hy.2.1 [(.iload 1, 1), (.iload 0, 1), (.iload 2, 1), (.ishr, 1), (.iconst 1, 1), (.iand, 1), (.iadd, 1), (.istore 1, 1), (.iinc 2 1, 3), (.ldc 4, 3)] (S' := (4, [(0, .inl x0), (1, .inl (x1 + ((zshr x0 x2) &&& (1 : Int32)))), (2, .inl (x2 + (1 : Int32)))], [], zfR M)) (b := true) (by decide +kernel) rfl rfl ?_
      refine zGo_keep [0, 1, 2] rfl ?_
      exact ih x0 (x1 + ((zshr x0 x2) &&& (1 : Int32))) (x2 + (1 : Int32)) M h
def m12_bits (x0 : Int32) (M : rM) : Option (Int32 × rM) := m12_bits_4 zfu x0 (0 : Int32) (0 : Int32) M
theorem m12_bits_ok {X : zX} {G : zG} (Hy : zHy X G q12_bits zcR 0 0 (some .int)) {r : Int32} {M' : rM} (hE : zEnd X G (some (.inl r)) (zfR M')) (x0 : Int32) (M : rM) (h : m12_bits x0 M = some (r, M')) : zGo (X, q12_bits, G) 0 0 (0, [(0, .inl x0)], [], zfR M) := by
  unfold m12_bits at h
  refine zblq Hy.1 Hy.2.1 [(.iconst 0, 1), (.istore 1, 1), (.iconst 0, 1), (.istore 2, 1)] (S' := (4, [(0, .inl x0), (1, .inl (0 : Int32)), (2, .inl (0 : Int32))], [], zfR M)) (b := true) (by decide +kernel) rfl rfl ?_
  refine zGo_keep [0, 1, 2] rfl ?_
  exact m12_bits_4_ok Hy hE zfu x0 (0 : Int32) (0 : Int32) M h
theorem m12_bits_met {l : Launch} {G : zG} (hG : zGok G) (hcn : zgcn G = zcR) {x0 : Int32} {M : rM} {r : Int32} {M' : rM} (h : m12_bits x0 M = some (r, M')) : zMet l G yX12_bits cX12_bits 3 (some .int) 0 0 [.inl x0] (zfR M) (some (.inl r)) (zfR M') :=
  zMet_of hG tbX12_ok rfl (by decide +kernel) (Nat.le_of_ble_eq_true rfl) (fun X _ Z hA hE => m12_bits_ok ⟨Z, hcn, hA⟩ hE x0 M h)
abbrev q12_box : ByteArray × Nat × String × zT := (cX12_box, 4, RX12, tbX12)
def m12_box_92 (x3 : Int32) (M : rM) : Option (Int32 × rM) := some (x3, M)
theorem m12_box_92_ok {X : zX} {G : zG} (Hy : zHy X G q12_box zcR 1 22 (some .int)) {r : Int32} {M' : rM} (hE : zEnd X G (some (.inl r)) (zfR M')) (x3 : Int32) (M : rM) (h : m12_box_92 x3 M = some (r, M')) : zGo (X, q12_box, G) 0 0 (92, [(3, .inl x3)], [], zfR M) := by
  unfold m12_box_92 at h
  refine zblq Hy.1 Hy.2.1 [(.iload 3, 1)] (S' := (93, [(3, .inl x3)], [.inl x3], zfR M)) (b := true) (by decide +kernel) rfl rfl ?_
  cases h
  exact zret_i Hy.1 Hy.2.2 hE (by decide +kernel)
def m12_box (x1 : Int32) (x2 : Int32) (M : rM) : Option (Int32 × rM) := zbd (m12_in x1 (0 : Int32) (1 : Int32) M) (fun r1 M1 => (if r1 = 0 then some ((-3 : Int32), M1) else zbd (m12_in x2 (0 : Int32) (30000 : Int32) M1) (fun r2 M2 => (if r2 = 0 then some ((-3 : Int32), M2) else (if (rg M2 12 0 0) = (10 : Int32) then some ((-5 : Int32), M2) else zgd (zin (rg M2 12 0 0) 10 && (zin (rg M2 12 0 0) 10 && (zin (rg M2 12 0 0) 10 && (zin (rg M2 12 0 0) 10 && (zin (rg M2 12 0 0) 10 && (zin (rg M2 12 0 0) 10 && true)))))) (m12_box_92 (rg M2 12 0 0) (rs (rs (rs (rs (rs (rs (rs M2 1301 0 (nx (rg M2 12 0 0)) x1) 1302 0 (nx (rg M2 12 0 0)) x2) 1303 0 (nx (rg M2 12 0 0)) (1 : Int32)) 1304 0 (nx (rg M2 12 0 0)) (1 : Int32)) 1308 0 (nx (rg M2 12 0 0)) (-1 : Int32)) 1309 0 (nx (rg M2 12 0 0)) (-1 : Int32)) 12 0 0 ((rg (rs (rs (rs (rs (rs (rs M2 1301 0 (nx (rg M2 12 0 0)) x1) 1302 0 (nx (rg M2 12 0 0)) x2) 1303 0 (nx (rg M2 12 0 0)) (1 : Int32)) 1304 0 (nx (rg M2 12 0 0)) (1 : Int32)) 1308 0 (nx (rg M2 12 0 0)) (-1 : Int32)) 1309 0 (nx (rg M2 12 0 0)) (-1 : Int32)) 12 0 0) + (1 : Int32)))))))))
theorem m12_box_ok {X : zX} {G : zG} (Hy : zHy X G q12_box zcR 1 22 (some .int)) {r : Int32} {M' : rM} (hE : zEnd X G (some (.inl r)) (zfR M')) (x1 : Int32) (x2 : Int32) (M : rM) (h : m12_box x1 x2 M = some (r, M')) : zGo (X, q12_box, G) 0 0 (0, [(0, .inr (.inr (some (12, 0)))), (1, .inl x1), (2, .inl x2)], [], zfR M) := by
  unfold m12_box at h
  refine zblq Hy.1 Hy.2.1 [(.iload 1, 1), (.iconst 0, 1), (.iconst 1, 1)] (S' := (3, [(0, .inr (.inr (some (12, 0)))), (1, .inl x1), (2, .inl x2)], [.inl (1 : Int32), .inl (0 : Int32), .inl x1], zfR M)) (b := true) (by decide +kernel) rfl rfl ?_
  obtain ⟨r1, M1, hc1, h⟩ := zbd_inv h
  refine zcallS Hy.1 (as := [.inl x1, .inl (0 : Int32), .inl (1 : Int32)]) (st := []) (m12_in_met (zOK_G Hy.1) Hy.2.1 hc1) cw12_171 m12_in_in rfl (zroom Hy.2.2 ⟨by decide, by decide⟩) rfl (by decide +kernel) ⟨Nat.zero_le _, Nat.zero_le _⟩ ?_
  refine zif_eq Hy.1 (off := 14) (tgt := 20) (by decide +kernel) (by decide) (fun hb6 => ?_) (fun hb6 => ?_)
  · replace h := zite_t h hb6
    refine zblq Hy.1 Hy.2.1 [(.iconst (-3), 2)] (S' := (22, [(0, .inr (.inr (some (12, 0)))), (1, .inl x1), (2, .inl x2)], [.inl (-3 : Int32)], zfR M1)) (b := true) (by decide +kernel) rfl rfl ?_
    cases h
    exact zret_i Hy.1 Hy.2.2 hE (by decide +kernel)
  · replace h := zite_f h hb6
    refine zblq Hy.1 Hy.2.1 [(.iload 2, 1), (.iconst 0, 1), (.iconst 30000, 3)] (S' := (14, [(0, .inr (.inr (some (12, 0)))), (1, .inl x1), (2, .inl x2)], [.inl (30000 : Int32), .inl (0 : Int32), .inl x2], zfR M1)) (b := true) (by decide +kernel) rfl rfl ?_
    obtain ⟨r2, M2, hc2, h⟩ := zbd_inv h
    refine zcallS Hy.1 (as := [.inl x2, .inl (0 : Int32), .inl (30000 : Int32)]) (st := []) (m12_in_met (zOK_G Hy.1) Hy.2.1 hc2) cw12_171 m12_in_in rfl (zroom Hy.2.2 ⟨by decide, by decide⟩) rfl (by decide +kernel) ⟨Nat.zero_le _, Nat.zero_le _⟩ ?_
    refine zif_ne Hy.1 (off := 6) (tgt := 23) (by decide +kernel) (by decide) (fun hb5 => ?_) (fun hb5 => ?_)
    · replace h := zite_f h hb5
      refine zblq Hy.1 Hy.2.1 [(.aload 0, 1), (.multianewarray 12 0, 3), (.iconst 10, 2)] (S' := (29, [(0, .inr (.inr (some (12, 0)))), (1, .inl x1), (2, .inl x2)], [.inl (10 : Int32), .inl (rg M2 12 0 0)], zfR M2)) (b := true) (by decide +kernel) rfl rfl ?_
      refine zic_ne Hy.1 (off := 6) (tgt := 35) (by decide +kernel) (by decide) (fun hb4 => ?_) (fun hb4 => ?_)
      · replace h := zite_f h hb4
        obtain ⟨hg3, h⟩ := zgd_inv h
        refine zblq Hy.1 Hy.2.1 [(.aload 0, 1), (.multianewarray 12 0, 3), (.istore 3, 1), (.aload 0, 1), (.getfield 1201, 3), (.iload 3, 1), (.iload 1, 1), (.iastore, 1), (.aload 0, 1), (.getfield 1202, 3), (.iload 3, 1), (.iload 2, 1), (.iastore, 1), (.aload 0, 1), (.getfield 1203, 3), (.iload 3, 1), (.iconst 1, 1), (.iastore, 1), (.aload 0, 1), (.getfield 1204, 3), (.iload 3, 1), (.iconst 1, 1), (.iastore, 1), (.aload 0, 1), (.getfield 1208, 3), (.iload 3, 1), (.iconst (-1), 1), (.iastore, 1), (.aload 0, 1), (.getfield 1209, 3), (.iload 3, 1), (.iconst (-1), 1), (.iastore, 1), (.aload 0, 1), (.dup, 1), (.multianewarray 12 0, 3), (.iconst 1, 1), (.iadd, 1), (.invokeinterface 12 0, 3)] (S' := (92, [(0, .inr (.inr (some (12, 0)))), (1, .inl x1), (2, .inl x2), (3, .inl (rg M2 12 0 0))], [], zfR (rs (rs (rs (rs (rs (rs (rs M2 1301 0 (nx (rg M2 12 0 0)) x1) 1302 0 (nx (rg M2 12 0 0)) x2) 1303 0 (nx (rg M2 12 0 0)) (1 : Int32)) 1304 0 (nx (rg M2 12 0 0)) (1 : Int32)) 1308 0 (nx (rg M2 12 0 0)) (-1 : Int32)) 1309 0 (nx (rg M2 12 0 0)) (-1 : Int32)) 12 0 0 ((rg (rs (rs (rs (rs (rs (rs M2 1301 0 (nx (rg M2 12 0 0)) x1) 1302 0 (nx (rg M2 12 0 0)) x2) 1303 0 (nx (rg M2 12 0 0)) (1 : Int32)) 1304 0 (nx (rg M2 12 0 0)) (1 : Int32)) 1308 0 (nx (rg M2 12 0 0)) (-1 : Int32)) 1309 0 (nx (rg M2 12 0 0)) (-1 : Int32)) 12 0 0) + (1 : Int32))))) (b := zin (rg M2 12 0 0) 10 && (zin (rg M2 12 0 0) 10 && (zin (rg M2 12 0 0) 10 && (zin (rg M2 12 0 0) 10 && (zin (rg M2 12 0 0) 10 && (zin (rg M2 12 0 0) 10 && true)))))) (by decide +kernel) rfl hg3 ?_
        refine zGo_keep [3] rfl ?_
        exact m12_box_92_ok Hy hE (rg M2 12 0 0) (rs (rs (rs (rs (rs (rs (rs M2 1301 0 (nx (rg M2 12 0 0)) x1) 1302 0 (nx (rg M2 12 0 0)) x2) 1303 0 (nx (rg M2 12 0 0)) (1 : Int32)) 1304 0 (nx (rg M2 12 0 0)) (1 : Int32)) 1308 0 (nx (rg M2 12 0 0)) (-1 : Int32)) 1309 0 (nx (rg M2 12 0 0)) (-1 : Int32)) 12 0 0 ((rg (rs (rs (rs (rs (rs (rs M2 1301 0 (nx (rg M2 12 0 0)) x1) 1302 0 (nx (rg M2 12 0 0)) x2) 1303 0 (nx (rg M2 12 0 0)) (1 : Int32)) 1304 0 (nx (rg M2 12 0 0)) (1 : Int32)) 1308 0 (nx (rg M2 12 0 0)) (-1 : Int32)) 1309 0 (nx (rg M2 12 0 0)) (-1 : Int32)) 12 0 0) + (1 : Int32))) h
      · replace h := zite_t h hb4
        refine zblq Hy.1 Hy.2.1 [(.iconst (-5), 2)] (S' := (34, [(0, .inr (.inr (some (12, 0)))), (1, .inl x1), (2, .inl x2)], [.inl (-5 : Int32)], zfR M2)) (b := true) (by decide +kernel) rfl rfl ?_
        cases h
        exact zret_i Hy.1 Hy.2.2 hE (by decide +kernel)
    · replace h := zite_t h hb5
      refine zblq Hy.1 Hy.2.1 [(.iconst (-3), 2)] (S' := (22, [(0, .inr (.inr (some (12, 0)))), (1, .inl x1), (2, .inl x2)], [.inl (-3 : Int32)], zfR M2)) (b := true) (by decide +kernel) rfl rfl ?_
      cases h
      exact zret_i Hy.1 Hy.2.2 hE (by decide +kernel)
theorem m12_box_met {l : Launch} {G : zG} (hG : zGok G) (hcn : zgcn G = zcR) {x1 : Int32} {x2 : Int32} {M : rM} {r : Int32} {M' : rM} (h : m12_box x1 x2 M = some (r, M')) : zMet l G yX12_box cX12_box 4 (some .int) 1 22 [.inr (.inr (some (12, 0))), .inl x1, .inl x2] (zfR M) (some (.inl r)) (zfR M') :=
  zMet_of hG tbX12_ok rfl (by decide +kernel) (Nat.le_of_ble_eq_true rfl) (fun X _ Z hA hE => m12_box_ok ⟨Z, hcn, hA⟩ hE x1 x2 M h)
abbrev q12_hears : ByteArray × Nat × String × zT := (cX12_hears, 5, RX12, tbX12)
def m12_hears_70 (x4 : Int32) (t1 : Int32) (t2 : Int32) (M : rM) : Option (Int32 × rM) := zgd (zin t1 10 && true) (some (x4, rs M 1307 0 (nx t1) t2))
theorem m12_hears_70_ok {X : zX} {G : zG} (Hy : zHy X G q12_hears zcR 2 43 (some .int)) {r : Int32} {M' : rM} (hE : zEnd X G (some (.inl r)) (zfR M')) (x4 : Int32) (t1 : Int32) (t2 : Int32) (M : rM) (h : m12_hears_70 x4 t1 t2 M = some (r, M')) : zGo (X, q12_hears, G) 0 0 (70, [(4, .inl x4)], [.inl t2, .inl t1, .inr (.inr (some (1307, 0)))], zfR M) := by
  unfold m12_hears_70 at h
  obtain ⟨hg5, h⟩ := zgd_inv h
  refine zblq Hy.1 Hy.2.1 [(.iastore, 1), (.iload 4, 2)] (S' := (73, [(4, .inl x4)], [.inl x4], zfR (rs M 1307 0 (nx t1) t2))) (b := zin t1 10 && true) (by decide +kernel) rfl hg5 ?_
  cases h
  exact zret_i Hy.1 Hy.2.2 hE (by decide +kernel)
def m12_hears (x1 : Int32) (x2 : Int32) (x3 : Int32) (M : rM) : Option (Int32 × rM) := zbd (m12_isBox x1 M) (fun r1 M1 => (if r1 = 0 then some ((-2 : Int32), M1) else zbd (m12_isBox x2 M1) (fun r2 M2 => (if r2 = 0 then some ((-2 : Int32), M2) else (if x1 = x2 then some ((-2 : Int32), M2) else zgd (zin x1 10 && true) ((if x3 = 0 then zgd (zin x1 10 && true) (m12_hears_70 ((zshr (rg M2 1307 0 (nx x1)) x2) &&& (1 : Int32)) x1 ((rg M2 1307 0 (nx x1)) &&& ((zshl (1 : Int32) x2) ^^^ (-1 : Int32))) M2) else zgd (zin x1 10 && true) (m12_hears_70 ((zshr (rg M2 1307 0 (nx x1)) x2) &&& (1 : Int32)) x1 ((rg M2 1307 0 (nx x1)) ||| (zshl (1 : Int32) x2)) M2))))))))
theorem m12_hears_ok {X : zX} {G : zG} (Hy : zHy X G q12_hears zcR 2 43 (some .int)) {r : Int32} {M' : rM} (hE : zEnd X G (some (.inl r)) (zfR M')) (x1 : Int32) (x2 : Int32) (x3 : Int32) (M : rM) (h : m12_hears x1 x2 x3 M = some (r, M')) : zGo (X, q12_hears, G) 0 0 (0, [(0, .inr (.inr (some (12, 0)))), (1, .inl x1), (2, .inl x2), (3, .inl x3)], [], zfR M) := by
  unfold m12_hears at h
  refine zblq Hy.1 Hy.2.1 [(.aload 0, 1), (.iload 1, 1)] (S' := (2, [(0, .inr (.inr (some (12, 0)))), (1, .inl x1), (2, .inl x2), (3, .inl x3)], [.inl x1, .inr (.inr (some (12, 0)))], zfR M)) (b := true) (by decide +kernel) rfl rfl ?_
  obtain ⟨r1, M1, hc1, h⟩ := zbd_inv h
  refine zcallV Hy.1 (as := [.inl x1]) (st := []) (m12_isBox_met (zOK_G Hy.1) Hy.2.1 hc1) cw12_175 m12_isBox_in m12_isBox_se (by decide) (zhlv Hy.2.1 rfl) rfl (zroom Hy.2.2 ⟨by decide, by decide⟩) rfl (by decide +kernel) ⟨Nat.zero_le _, Nat.zero_le _⟩ ?_
  refine zif_eq Hy.1 (off := 16) (tgt := 21) (by decide +kernel) (by decide) (fun hb10 => ?_) (fun hb10 => ?_)
  · replace h := zite_t h hb10
    refine zblq Hy.1 Hy.2.1 [(.iconst (-2), 2)] (S' := (23, [(0, .inr (.inr (some (12, 0)))), (1, .inl x1), (2, .inl x2), (3, .inl x3)], [.inl (-2 : Int32)], zfR M1)) (b := true) (by decide +kernel) rfl rfl ?_
    cases h
    exact zret_i Hy.1 Hy.2.2 hE (by decide +kernel)
  · replace h := zite_f h hb10
    refine zblq Hy.1 Hy.2.1 [(.aload 0, 1), (.iload 2, 1)] (S' := (10, [(0, .inr (.inr (some (12, 0)))), (1, .inl x1), (2, .inl x2), (3, .inl x3)], [.inl x2, .inr (.inr (some (12, 0)))], zfR M1)) (b := true) (by decide +kernel) rfl rfl ?_
    obtain ⟨r2, M2, hc2, h⟩ := zbd_inv h
    refine zcallV Hy.1 (as := [.inl x2]) (st := []) (m12_isBox_met (zOK_G Hy.1) Hy.2.1 hc2) cw12_175 m12_isBox_in m12_isBox_se (by decide) (zhlv Hy.2.1 rfl) rfl (zroom Hy.2.2 ⟨by decide, by decide⟩) rfl (by decide +kernel) ⟨Nat.zero_le _, Nat.zero_le _⟩ ?_
    refine zif_eq Hy.1 (off := 8) (tgt := 21) (by decide +kernel) (by decide) (fun hb9 => ?_) (fun hb9 => ?_)
    · replace h := zite_t h hb9
      refine zblq Hy.1 Hy.2.1 [(.iconst (-2), 2)] (S' := (23, [(0, .inr (.inr (some (12, 0)))), (1, .inl x1), (2, .inl x2), (3, .inl x3)], [.inl (-2 : Int32)], zfR M2)) (b := true) (by decide +kernel) rfl rfl ?_
      cases h
      exact zret_i Hy.1 Hy.2.2 hE (by decide +kernel)
    · replace h := zite_f h hb9
      refine zblq Hy.1 Hy.2.1 [(.iload 1, 1), (.iload 2, 1)] (S' := (18, [(0, .inr (.inr (some (12, 0)))), (1, .inl x1), (2, .inl x2), (3, .inl x3)], [.inl x2, .inl x1], zfR M2)) (b := true) (by decide +kernel) rfl rfl ?_
      refine zic_ne Hy.1 (off := 6) (tgt := 24) (by decide +kernel) (by decide) (fun hb8 => ?_) (fun hb8 => ?_)
      · replace h := zite_f h hb8
        obtain ⟨hg3, h⟩ := zgd_inv h
        refine zblq Hy.1 Hy.2.1 [(.aload 0, 1), (.getfield 1207, 3), (.iload 1, 1), (.iaload, 1), (.iload 2, 1), (.ishr, 1), (.iconst 1, 1), (.iand, 1), (.istore 4, 2), (.aload 0, 1), (.getfield 1207, 3), (.iload 1, 1), (.iload 3, 1)] (S' := (42, [(0, .inr (.inr (some (12, 0)))), (1, .inl x1), (2, .inl x2), (3, .inl x3), (4, .inl ((zshr (rg M2 1307 0 (nx x1)) x2) &&& (1 : Int32)))], [.inl x3, .inl x1, .inr (.inr (some (1307, 0)))], zfR M2)) (b := zin x1 10 && true) (by decide +kernel) rfl hg3 ?_
        refine zif_eq Hy.1 (off := 16) (tgt := 58) (by decide +kernel) (by decide) (fun hb7 => ?_) (fun hb7 => ?_)
        · replace h := zite_t h hb7
          obtain ⟨hg4, h⟩ := zgd_inv h
          refine zblq Hy.1 Hy.2.1 [(.aload 0, 1), (.getfield 1207, 3), (.iload 1, 1), (.iaload, 1), (.iconst 1, 1), (.iload 2, 1), (.ishl, 1), (.iconst (-1), 1), (.ixor, 1), (.iand, 1)] (S' := (70, [(0, .inr (.inr (some (12, 0)))), (1, .inl x1), (2, .inl x2), (3, .inl x3), (4, .inl ((zshr (rg M2 1307 0 (nx x1)) x2) &&& (1 : Int32)))], [.inl ((rg M2 1307 0 (nx x1)) &&& ((zshl (1 : Int32) x2) ^^^ (-1 : Int32))), .inl x1, .inr (.inr (some (1307, 0)))], zfR M2)) (b := zin x1 10 && true) (by decide +kernel) rfl hg4 ?_
          refine zGo_keep [4] rfl ?_
          exact m12_hears_70_ok Hy hE ((zshr (rg M2 1307 0 (nx x1)) x2) &&& (1 : Int32)) x1 ((rg M2 1307 0 (nx x1)) &&& ((zshl (1 : Int32) x2) ^^^ (-1 : Int32))) M2 h
        · replace h := zite_f h hb7
          obtain ⟨hg6, h⟩ := zgd_inv h
          refine zblq Hy.1 Hy.2.1 [(.aload 0, 1), (.getfield 1207, 3), (.iload 1, 1), (.iaload, 1), (.iconst 1, 1), (.iload 2, 1), (.ishl, 1), (.ior, 1), (.ldc 70, 3)] (S' := (70, [(0, .inr (.inr (some (12, 0)))), (1, .inl x1), (2, .inl x2), (3, .inl x3), (4, .inl ((zshr (rg M2 1307 0 (nx x1)) x2) &&& (1 : Int32)))], [.inl ((rg M2 1307 0 (nx x1)) ||| (zshl (1 : Int32) x2)), .inl x1, .inr (.inr (some (1307, 0)))], zfR M2)) (b := zin x1 10 && true) (by decide +kernel) rfl hg6 ?_
          refine zGo_keep [4] rfl ?_
          exact m12_hears_70_ok Hy hE ((zshr (rg M2 1307 0 (nx x1)) x2) &&& (1 : Int32)) x1 ((rg M2 1307 0 (nx x1)) ||| (zshl (1 : Int32) x2)) M2 h
      · replace h := zite_t h hb8
        refine zblq Hy.1 Hy.2.1 [(.iconst (-2), 2)] (S' := (23, [(0, .inr (.inr (some (12, 0)))), (1, .inl x1), (2, .inl x2), (3, .inl x3)], [.inl (-2 : Int32)], zfR M2)) (b := true) (by decide +kernel) rfl rfl ?_
        cases h
        exact zret_i Hy.1 Hy.2.2 hE (by decide +kernel)
theorem m12_hears_met {l : Launch} {G : zG} (hG : zGok G) (hcn : zgcn G = zcR) {x1 : Int32} {x2 : Int32} {x3 : Int32} {M : rM} {r : Int32} {M' : rM} (h : m12_hears x1 x2 x3 M = some (r, M')) : zMet l G yX12_hears cX12_hears 5 (some .int) 2 43 [.inr (.inr (some (12, 0))), .inl x1, .inl x2, .inl x3] (zfR M) (some (.inl r)) (zfR M') :=
  zMet_of hG tbX12_ok rfl (by decide +kernel) (Nat.le_of_ble_eq_true rfl) (fun X _ Z hA hE => m12_hears_ok ⟨Z, hcn, hA⟩ hE x1 x2 x3 M h)
abbrev q12_sleep : ByteArray × Nat × String × zT := (cX12_sleep, 4, RX12, tbX12)
def m12_sleep (x1 : Int32) (x2 : Int32) (x3 : Int32) (M : rM) : Option (Int32 × rM) := zbd (m12_isBox x1 M) (fun r1 M1 => (if r1 = 0 then some ((-2 : Int32), M1) else zbd (m12_in x2 (1 : Int32) (12 : Int32) M1) (fun r2 M2 => (if r2 = 0 then some ((-3 : Int32), M2) else zbd (m12_in x3 (0 : Int32) ((zshl (1 : Int32) x2) - (1 : Int32)) M2) (fun r3 M3 => (if r3 = 0 then some ((-3 : Int32), M3) else zgd (zin x1 10 && (zin x1 10 && true)) (some ((1 : Int32), rs (rs M3 1303 0 (nx x1) x2) 1304 0 (nx x1) x3))))))))
theorem m12_sleep_ok {X : zX} {G : zG} (Hy : zHy X G q12_sleep zcR 2 43 (some .int)) {r : Int32} {M' : rM} (hE : zEnd X G (some (.inl r)) (zfR M')) (x1 : Int32) (x2 : Int32) (x3 : Int32) (M : rM) (h : m12_sleep x1 x2 x3 M = some (r, M')) : zGo (X, q12_sleep, G) 0 0 (0, [(0, .inr (.inr (some (12, 0)))), (1, .inl x1), (2, .inl x2), (3, .inl x3)], [], zfR M) := by
  unfold m12_sleep at h
  refine zblq Hy.1 Hy.2.1 [(.aload 0, 1), (.iload 1, 1)] (S' := (2, [(0, .inr (.inr (some (12, 0)))), (1, .inl x1), (2, .inl x2), (3, .inl x3)], [.inl x1, .inr (.inr (some (12, 0)))], zfR M)) (b := true) (by decide +kernel) rfl rfl ?_
  obtain ⟨r1, M1, hc1, h⟩ := zbd_inv h
  refine zcallV Hy.1 (as := [.inl x1]) (st := []) (m12_isBox_met (zOK_G Hy.1) Hy.2.1 hc1) cw12_175 m12_isBox_in m12_isBox_se (by decide) (zhlv Hy.2.1 rfl) rfl (zroom Hy.2.2 ⟨by decide, by decide⟩) rfl (by decide +kernel) ⟨Nat.zero_le _, Nat.zero_le _⟩ ?_
  refine zif_ne Hy.1 (off := 6) (tgt := 11) (by decide +kernel) (by decide) (fun hb7 => ?_) (fun hb7 => ?_)
  · replace h := zite_f h hb7
    refine zblq Hy.1 Hy.2.1 [(.iload 2, 1), (.iconst 1, 1), (.iconst 12, 2)] (S' := (15, [(0, .inr (.inr (some (12, 0)))), (1, .inl x1), (2, .inl x2), (3, .inl x3)], [.inl (12 : Int32), .inl (1 : Int32), .inl x2], zfR M1)) (b := true) (by decide +kernel) rfl rfl ?_
    obtain ⟨r2, M2, hc2, h⟩ := zbd_inv h
    refine zcallS Hy.1 (as := [.inl x2, .inl (1 : Int32), .inl (12 : Int32)]) (st := []) (m12_in_met (zOK_G Hy.1) Hy.2.1 hc2) cw12_171 m12_in_in rfl (zroom Hy.2.2 ⟨by decide, by decide⟩) rfl (by decide +kernel) ⟨Nat.zero_le _, Nat.zero_le _⟩ ?_
    refine zif_eq Hy.1 (off := 16) (tgt := 34) (by decide +kernel) (by decide) (fun hb6 => ?_) (fun hb6 => ?_)
    · replace h := zite_t h hb6
      refine zblq Hy.1 Hy.2.1 [(.iconst (-3), 2)] (S' := (36, [(0, .inr (.inr (some (12, 0)))), (1, .inl x1), (2, .inl x2), (3, .inl x3)], [.inl (-3 : Int32)], zfR M2)) (b := true) (by decide +kernel) rfl rfl ?_
      cases h
      exact zret_i Hy.1 Hy.2.2 hE (by decide +kernel)
    · replace h := zite_f h hb6
      refine zblq Hy.1 Hy.2.1 [(.iload 3, 1), (.iconst 0, 1), (.iconst 1, 1), (.iload 2, 1), (.ishl, 1), (.iconst 1, 1), (.isub, 1)] (S' := (28, [(0, .inr (.inr (some (12, 0)))), (1, .inl x1), (2, .inl x2), (3, .inl x3)], [.inl ((zshl (1 : Int32) x2) - (1 : Int32)), .inl (0 : Int32), .inl x3], zfR M2)) (b := true) (by decide +kernel) rfl rfl ?_
      obtain ⟨r3, M3, hc3, h⟩ := zbd_inv h
      refine zcallS Hy.1 (as := [.inl x3, .inl (0 : Int32), .inl ((zshl (1 : Int32) x2) - (1 : Int32))]) (st := []) (m12_in_met (zOK_G Hy.1) Hy.2.1 hc3) cw12_171 m12_in_in rfl (zroom Hy.2.2 ⟨by decide, by decide⟩) rfl (by decide +kernel) ⟨Nat.zero_le _, Nat.zero_le _⟩ ?_
      refine zif_ne Hy.1 (off := 6) (tgt := 37) (by decide +kernel) (by decide) (fun hb5 => ?_) (fun hb5 => ?_)
      · replace h := zite_f h hb5
        obtain ⟨hg4, h⟩ := zgd_inv h
        refine zblq Hy.1 Hy.2.1 [(.aload 0, 1), (.getfield 1203, 3), (.iload 1, 1), (.iload 2, 1), (.iastore, 1), (.aload 0, 1), (.getfield 1204, 3), (.iload 1, 1), (.iload 3, 1), (.iastore, 1), (.iconst 1, 1)] (S' := (52, [(0, .inr (.inr (some (12, 0)))), (1, .inl x1), (2, .inl x2), (3, .inl x3)], [.inl (1 : Int32)], zfR (rs (rs M3 1303 0 (nx x1) x2) 1304 0 (nx x1) x3))) (b := zin x1 10 && (zin x1 10 && true)) (by decide +kernel) rfl hg4 ?_
        cases h
        exact zret_i Hy.1 Hy.2.2 hE (by decide +kernel)
      · replace h := zite_t h hb5
        refine zblq Hy.1 Hy.2.1 [(.iconst (-3), 2)] (S' := (36, [(0, .inr (.inr (some (12, 0)))), (1, .inl x1), (2, .inl x2), (3, .inl x3)], [.inl (-3 : Int32)], zfR M3)) (b := true) (by decide +kernel) rfl rfl ?_
        cases h
        exact zret_i Hy.1 Hy.2.2 hE (by decide +kernel)
  · replace h := zite_t h hb7
    refine zblq Hy.1 Hy.2.1 [(.iconst (-2), 2)] (S' := (10, [(0, .inr (.inr (some (12, 0)))), (1, .inl x1), (2, .inl x2), (3, .inl x3)], [.inl (-2 : Int32)], zfR M1)) (b := true) (by decide +kernel) rfl rfl ?_
    cases h
    exact zret_i Hy.1 Hy.2.2 hE (by decide +kernel)
theorem m12_sleep_met {l : Launch} {G : zG} (hG : zGok G) (hcn : zgcn G = zcR) {x1 : Int32} {x2 : Int32} {x3 : Int32} {M : rM} {r : Int32} {M' : rM} (h : m12_sleep x1 x2 x3 M = some (r, M')) : zMet l G yX12_sleep cX12_sleep 4 (some .int) 2 43 [.inr (.inr (some (12, 0))), .inl x1, .inl x2, .inl x3] (zfR M) (some (.inl r)) (zfR M') :=
  zMet_of hG tbX12_ok rfl (by decide +kernel) (Nat.le_of_ble_eq_true rfl) (fun X _ Z hA hE => m12_sleep_ok ⟨Z, hcn, hA⟩ hE x1 x2 x3 M h)
abbrev q12_clock : ByteArray × Nat × String × zT := (cX12_clock, 4, RX12, tbX12)
def m12_clock (x1 : Int32) (x2 : Int32) (x3 : Int32) (M : rM) : Option (Int32 × rM) := zbd (m12_isBox x1 M) (fun r1 M1 => (if r1 = 0 then some ((-2 : Int32), M1) else zbd (m12_in x2 (-20 : Int32) (20 : Int32) M1) (fun r2 M2 => (if r2 = 0 then some ((-3 : Int32), M2) else zbd (m12_in x3 (-50 : Int32) (50 : Int32) M2) (fun r3 M3 => (if r3 = 0 then some ((-3 : Int32), M3) else zgd (zin x1 10 && (zin x1 10 && true)) (some ((1 : Int32), rs (rs M3 1305 0 (nx x1) x2) 1306 0 (nx x1) x3))))))))
theorem m12_clock_ok {X : zX} {G : zG} (Hy : zHy X G q12_clock zcR 2 43 (some .int)) {r : Int32} {M' : rM} (hE : zEnd X G (some (.inl r)) (zfR M')) (x1 : Int32) (x2 : Int32) (x3 : Int32) (M : rM) (h : m12_clock x1 x2 x3 M = some (r, M')) : zGo (X, q12_clock, G) 0 0 (0, [(0, .inr (.inr (some (12, 0)))), (1, .inl x1), (2, .inl x2), (3, .inl x3)], [], zfR M) := by
  unfold m12_clock at h
  refine zblq Hy.1 Hy.2.1 [(.aload 0, 1), (.iload 1, 1)] (S' := (2, [(0, .inr (.inr (some (12, 0)))), (1, .inl x1), (2, .inl x2), (3, .inl x3)], [.inl x1, .inr (.inr (some (12, 0)))], zfR M)) (b := true) (by decide +kernel) rfl rfl ?_
  obtain ⟨r1, M1, hc1, h⟩ := zbd_inv h
  refine zcallV Hy.1 (as := [.inl x1]) (st := []) (m12_isBox_met (zOK_G Hy.1) Hy.2.1 hc1) cw12_175 m12_isBox_in m12_isBox_se (by decide) (zhlv Hy.2.1 rfl) rfl (zroom Hy.2.2 ⟨by decide, by decide⟩) rfl (by decide +kernel) ⟨Nat.zero_le _, Nat.zero_le _⟩ ?_
  refine zif_ne Hy.1 (off := 6) (tgt := 11) (by decide +kernel) (by decide) (fun hb7 => ?_) (fun hb7 => ?_)
  · replace h := zite_f h hb7
    refine zblq Hy.1 Hy.2.1 [(.iload 2, 1), (.iconst (-20), 2), (.iconst 20, 2)] (S' := (16, [(0, .inr (.inr (some (12, 0)))), (1, .inl x1), (2, .inl x2), (3, .inl x3)], [.inl (20 : Int32), .inl (-20 : Int32), .inl x2], zfR M1)) (b := true) (by decide +kernel) rfl rfl ?_
    obtain ⟨r2, M2, hc2, h⟩ := zbd_inv h
    refine zcallS Hy.1 (as := [.inl x2, .inl (-20 : Int32), .inl (20 : Int32)]) (st := []) (m12_in_met (zOK_G Hy.1) Hy.2.1 hc2) cw12_171 m12_in_in rfl (zroom Hy.2.2 ⟨by decide, by decide⟩) rfl (by decide +kernel) ⟨Nat.zero_le _, Nat.zero_le _⟩ ?_
    refine zif_eq Hy.1 (off := 14) (tgt := 33) (by decide +kernel) (by decide) (fun hb6 => ?_) (fun hb6 => ?_)
    · replace h := zite_t h hb6
      refine zblq Hy.1 Hy.2.1 [(.iconst (-3), 2)] (S' := (35, [(0, .inr (.inr (some (12, 0)))), (1, .inl x1), (2, .inl x2), (3, .inl x3)], [.inl (-3 : Int32)], zfR M2)) (b := true) (by decide +kernel) rfl rfl ?_
      cases h
      exact zret_i Hy.1 Hy.2.2 hE (by decide +kernel)
    · replace h := zite_f h hb6
      refine zblq Hy.1 Hy.2.1 [(.iload 3, 1), (.iconst (-50), 2), (.iconst 50, 2)] (S' := (27, [(0, .inr (.inr (some (12, 0)))), (1, .inl x1), (2, .inl x2), (3, .inl x3)], [.inl (50 : Int32), .inl (-50 : Int32), .inl x3], zfR M2)) (b := true) (by decide +kernel) rfl rfl ?_
      obtain ⟨r3, M3, hc3, h⟩ := zbd_inv h
      refine zcallS Hy.1 (as := [.inl x3, .inl (-50 : Int32), .inl (50 : Int32)]) (st := []) (m12_in_met (zOK_G Hy.1) Hy.2.1 hc3) cw12_171 m12_in_in rfl (zroom Hy.2.2 ⟨by decide, by decide⟩) rfl (by decide +kernel) ⟨Nat.zero_le _, Nat.zero_le _⟩ ?_
      refine zif_ne Hy.1 (off := 6) (tgt := 36) (by decide +kernel) (by decide) (fun hb5 => ?_) (fun hb5 => ?_)
      · replace h := zite_f h hb5
        obtain ⟨hg4, h⟩ := zgd_inv h
        refine zblq Hy.1 Hy.2.1 [(.aload 0, 1), (.getfield 1205, 3), (.iload 1, 1), (.iload 2, 1), (.iastore, 1), (.aload 0, 1), (.getfield 1206, 3), (.iload 1, 1), (.iload 3, 1), (.iastore, 1), (.iconst 1, 1)] (S' := (51, [(0, .inr (.inr (some (12, 0)))), (1, .inl x1), (2, .inl x2), (3, .inl x3)], [.inl (1 : Int32)], zfR (rs (rs M3 1305 0 (nx x1) x2) 1306 0 (nx x1) x3))) (b := zin x1 10 && (zin x1 10 && true)) (by decide +kernel) rfl hg4 ?_
        cases h
        exact zret_i Hy.1 Hy.2.2 hE (by decide +kernel)
      · replace h := zite_t h hb5
        refine zblq Hy.1 Hy.2.1 [(.iconst (-3), 2)] (S' := (35, [(0, .inr (.inr (some (12, 0)))), (1, .inl x1), (2, .inl x2), (3, .inl x3)], [.inl (-3 : Int32)], zfR M3)) (b := true) (by decide +kernel) rfl rfl ?_
        cases h
        exact zret_i Hy.1 Hy.2.2 hE (by decide +kernel)
  · replace h := zite_t h hb7
    refine zblq Hy.1 Hy.2.1 [(.iconst (-2), 2)] (S' := (10, [(0, .inr (.inr (some (12, 0)))), (1, .inl x1), (2, .inl x2), (3, .inl x3)], [.inl (-2 : Int32)], zfR M1)) (b := true) (by decide +kernel) rfl rfl ?_
    cases h
    exact zret_i Hy.1 Hy.2.2 hE (by decide +kernel)
theorem m12_clock_met {l : Launch} {G : zG} (hG : zGok G) (hcn : zgcn G = zcR) {x1 : Int32} {x2 : Int32} {x3 : Int32} {M : rM} {r : Int32} {M' : rM} (h : m12_clock x1 x2 x3 M = some (r, M')) : zMet l G yX12_clock cX12_clock 4 (some .int) 2 43 [.inr (.inr (some (12, 0))), .inl x1, .inl x2, .inl x3] (zfR M) (some (.inl r)) (zfR M') :=
  zMet_of hG tbX12_ok rfl (by decide +kernel) (Nat.le_of_ble_eq_true rfl) (fun X _ Z hA hE => m12_clock_ok ⟨Z, hcn, hA⟩ hE x1 x2 x3 M h)
abbrev q12_set : ByteArray × Nat × String × zT := (cX12_set, 4, RX12, tbX12)
def m12_set_51 (x1 : Int32) (x2 : Int32) (t0 : Int32) (t1 : Int32) (t2 : Int32) (M : rM) : Option (Int32 × rM) := zbd (m12_in t0 t1 t2 M) (fun r2 M2 => (if r2 = 0 then some ((-3 : Int32), M2) else zgd (zin x1 7 && (zin x1 7 && true)) (some (rg M2 1312 0 (nx x1), rs M2 1312 0 (nx x1) x2))))
theorem m12_set_51_ok {X : zX} {G : zG} (Hy : zHy X G q12_set zcR 1 22 (some .int)) {r : Int32} {M' : rM} (hE : zEnd X G (some (.inl r)) (zfR M')) (x1 : Int32) (x2 : Int32) (t0 : Int32) (t1 : Int32) (t2 : Int32) (M : rM) (h : m12_set_51 x1 x2 t0 t1 t2 M = some (r, M')) : zGo (X, q12_set, G) 0 0 (51, [(0, .inr (.inr (some (12, 0)))), (1, .inl x1), (2, .inl x2)], [.inl t2, .inl t1, .inl t0], zfR M) := by
  unfold m12_set_51 at h
  obtain ⟨r2, M2, hc2, h⟩ := zbd_inv h
  refine zcallS Hy.1 (as := [.inl t0, .inl t1, .inl t2]) (st := []) (m12_in_met (zOK_G Hy.1) Hy.2.1 hc2) cw12_171 m12_in_in rfl (zroom Hy.2.2 ⟨by decide, by decide⟩) rfl (by decide +kernel) ⟨Nat.zero_le _, Nat.zero_le _⟩ ?_
  refine zif_ne Hy.1 (off := 6) (tgt := 60) (by decide +kernel) (by decide) (fun hb4 => ?_) (fun hb4 => ?_)
  · replace h := zite_f h hb4
    obtain ⟨hg3, h⟩ := zgd_inv h
    refine zblq Hy.1 Hy.2.1 [(.aload 0, 1), (.getfield 1212, 3), (.iload 1, 1), (.iaload, 1), (.istore 3, 1), (.aload 0, 1), (.getfield 1212, 3), (.iload 1, 1), (.iload 2, 1), (.iastore, 1), (.iload 3, 1)] (S' := (75, [(0, .inr (.inr (some (12, 0)))), (1, .inl x1), (2, .inl x2), (3, .inl (rg M2 1312 0 (nx x1)))], [.inl (rg M2 1312 0 (nx x1))], zfR (rs M2 1312 0 (nx x1) x2))) (b := zin x1 7 && (zin x1 7 && true)) (by decide +kernel) rfl hg3 ?_
    cases h
    exact zret_i Hy.1 Hy.2.2 hE (by decide +kernel)
  · replace h := zite_t h hb4
    refine zblq Hy.1 Hy.2.1 [(.iconst (-3), 2)] (S' := (59, [(0, .inr (.inr (some (12, 0)))), (1, .inl x1), (2, .inl x2)], [.inl (-3 : Int32)], zfR M2)) (b := true) (by decide +kernel) rfl rfl ?_
    cases h
    exact zret_i Hy.1 Hy.2.2 hE (by decide +kernel)
def m12_set_21 (x1 : Int32) (x2 : Int32) (t0 : Int32) (t1 : Int32) (M : rM) : Option (Int32 × rM) := (if (4 : Int32) ≤ x1 then (if x1 = (4 : Int32) then m12_set_51 x1 x2 t0 t1 (9 : Int32) M else (if x1 = (5 : Int32) then m12_set_51 x1 x2 t0 t1 (5 : Int32) M else m12_set_51 x1 x2 t0 t1 (3 : Int32) M)) else m12_set_51 x1 x2 t0 t1 (20 : Int32) M)
theorem m12_set_21_ok {X : zX} {G : zG} (Hy : zHy X G q12_set zcR 1 22 (some .int)) {r : Int32} {M' : rM} (hE : zEnd X G (some (.inl r)) (zfR M')) (x1 : Int32) (x2 : Int32) (t0 : Int32) (t1 : Int32) (M : rM) (h : m12_set_21 x1 x2 t0 t1 M = some (r, M')) : zGo (X, q12_set, G) 0 0 (21, [(0, .inr (.inr (some (12, 0)))), (1, .inl x1), (2, .inl x2)], [.inl t1, .inl t0], zfR M) := by
  unfold m12_set_21 at h
  refine zblq Hy.1 Hy.2.1 [(.iload 1, 1), (.iconst 4, 1)] (S' := (23, [(0, .inr (.inr (some (12, 0)))), (1, .inl x1), (2, .inl x2)], [.inl (4 : Int32), .inl x1, .inl t1, .inl t0], zfR M)) (b := true) (by decide +kernel) rfl rfl ?_
  refine zic_ge Hy.1 (off := 8) (tgt := 31) (by decide +kernel) (by decide) (fun hb7 => ?_) (fun hb7 => ?_)
  · replace h := zite_t h hb7
    refine zblq Hy.1 Hy.2.1 [(.iload 1, 1), (.iconst 4, 1)] (S' := (33, [(0, .inr (.inr (some (12, 0)))), (1, .inl x1), (2, .inl x2)], [.inl (4 : Int32), .inl x1, .inl t1, .inl t0], zfR M)) (b := true) (by decide +kernel) rfl rfl ?_
    refine zic_ne Hy.1 (off := 8) (tgt := 41) (by decide +kernel) (by decide) (fun hb6 => ?_) (fun hb6 => ?_)
    · replace h := zite_f h hb6
      refine zblq Hy.1 Hy.2.1 [(.iload 1, 1), (.iconst 5, 1)] (S' := (43, [(0, .inr (.inr (some (12, 0)))), (1, .inl x1), (2, .inl x2)], [.inl (5 : Int32), .inl x1, .inl t1, .inl t0], zfR M)) (b := true) (by decide +kernel) rfl rfl ?_
      refine zic_ne Hy.1 (off := 7) (tgt := 50) (by decide +kernel) (by decide) (fun hb5 => ?_) (fun hb5 => ?_)
      · replace h := zite_f h hb5
        refine zblq Hy.1 Hy.2.1 [(.iconst 3, 1)] (S' := (51, [(0, .inr (.inr (some (12, 0)))), (1, .inl x1), (2, .inl x2)], [.inl (3 : Int32), .inl t1, .inl t0], zfR M)) (b := true) (by decide +kernel) rfl rfl ?_
        refine zGo_keep [0, 1, 2] rfl ?_
        exact m12_set_51_ok Hy hE x1 x2 t0 t1 (3 : Int32) M h
      · replace h := zite_t h hb5
        refine zblq Hy.1 Hy.2.1 [(.iconst 5, 1), (.ldc 51, 3)] (S' := (51, [(0, .inr (.inr (some (12, 0)))), (1, .inl x1), (2, .inl x2)], [.inl (5 : Int32), .inl t1, .inl t0], zfR M)) (b := true) (by decide +kernel) rfl rfl ?_
        refine zGo_keep [0, 1, 2] rfl ?_
        exact m12_set_51_ok Hy hE x1 x2 t0 t1 (5 : Int32) M h
    · replace h := zite_t h hb6
      refine zblq Hy.1 Hy.2.1 [(.iconst 9, 2), (.ldc 51, 3)] (S' := (51, [(0, .inr (.inr (some (12, 0)))), (1, .inl x1), (2, .inl x2)], [.inl (9 : Int32), .inl t1, .inl t0], zfR M)) (b := true) (by decide +kernel) rfl rfl ?_
      refine zGo_keep [0, 1, 2] rfl ?_
      exact m12_set_51_ok Hy hE x1 x2 t0 t1 (9 : Int32) M h
  · replace h := zite_f h hb7
    refine zblq Hy.1 Hy.2.1 [(.iconst 20, 2), (.ldc 51, 3)] (S' := (51, [(0, .inr (.inr (some (12, 0)))), (1, .inl x1), (2, .inl x2)], [.inl (20 : Int32), .inl t1, .inl t0], zfR M)) (b := true) (by decide +kernel) rfl rfl ?_
    refine zGo_keep [0, 1, 2] rfl ?_
    exact m12_set_51_ok Hy hE x1 x2 t0 t1 (20 : Int32) M h
def m12_set (x1 : Int32) (x2 : Int32) (M : rM) : Option (Int32 × rM) := zbd (m12_in x1 (0 : Int32) (6 : Int32) M) (fun r1 M1 => (if r1 = 0 then some ((-3 : Int32), M1) else (if x1 = (5 : Int32) then m12_set_21 x1 x2 x2 (1 : Int32) M1 else m12_set_21 x1 x2 x2 (0 : Int32) M1)))
theorem m12_set_ok {X : zX} {G : zG} (Hy : zHy X G q12_set zcR 1 22 (some .int)) {r : Int32} {M' : rM} (hE : zEnd X G (some (.inl r)) (zfR M')) (x1 : Int32) (x2 : Int32) (M : rM) (h : m12_set x1 x2 M = some (r, M')) : zGo (X, q12_set, G) 0 0 (0, [(0, .inr (.inr (some (12, 0)))), (1, .inl x1), (2, .inl x2)], [], zfR M) := by
  unfold m12_set at h
  refine zblq Hy.1 Hy.2.1 [(.iload 1, 1), (.iconst 0, 1), (.iconst 6, 2)] (S' := (4, [(0, .inr (.inr (some (12, 0)))), (1, .inl x1), (2, .inl x2)], [.inl (6 : Int32), .inl (0 : Int32), .inl x1], zfR M)) (b := true) (by decide +kernel) rfl rfl ?_
  obtain ⟨r1, M1, hc1, h⟩ := zbd_inv h
  refine zcallS Hy.1 (as := [.inl x1, .inl (0 : Int32), .inl (6 : Int32)]) (st := []) (m12_in_met (zOK_G Hy.1) Hy.2.1 hc1) cw12_171 m12_in_in rfl (zroom Hy.2.2 ⟨by decide, by decide⟩) rfl (by decide +kernel) ⟨Nat.zero_le _, Nat.zero_le _⟩ ?_
  refine zif_eq Hy.1 (off := 50) (tgt := 57) (by decide +kernel) (by decide) (fun hb9 => ?_) (fun hb9 => ?_)
  · replace h := zite_t h hb9
    refine zblq Hy.1 Hy.2.1 [(.iconst (-3), 2)] (S' := (59, [(0, .inr (.inr (some (12, 0)))), (1, .inl x1), (2, .inl x2)], [.inl (-3 : Int32)], zfR M1)) (b := true) (by decide +kernel) rfl rfl ?_
    cases h
    exact zret_i Hy.1 Hy.2.2 hE (by decide +kernel)
  · replace h := zite_f h hb9
    refine zblq Hy.1 Hy.2.1 [(.iload 2, 1), (.iload 1, 1), (.iconst 5, 1)] (S' := (13, [(0, .inr (.inr (some (12, 0)))), (1, .inl x1), (2, .inl x2)], [.inl (5 : Int32), .inl x1, .inl x2], zfR M1)) (b := true) (by decide +kernel) rfl rfl ?_
    refine zic_ne Hy.1 (off := 7) (tgt := 20) (by decide +kernel) (by decide) (fun hb8 => ?_) (fun hb8 => ?_)
    · replace h := zite_f h hb8
      refine zblq Hy.1 Hy.2.1 [(.iconst 0, 1)] (S' := (21, [(0, .inr (.inr (some (12, 0)))), (1, .inl x1), (2, .inl x2)], [.inl (0 : Int32), .inl x2], zfR M1)) (b := true) (by decide +kernel) rfl rfl ?_
      refine zGo_keep [0, 1, 2] rfl ?_
      exact m12_set_21_ok Hy hE x1 x2 x2 (0 : Int32) M1 h
    · replace h := zite_t h hb8
      refine zblq Hy.1 Hy.2.1 [(.iconst 1, 1), (.ldc 21, 3)] (S' := (21, [(0, .inr (.inr (some (12, 0)))), (1, .inl x1), (2, .inl x2)], [.inl (1 : Int32), .inl x2], zfR M1)) (b := true) (by decide +kernel) rfl rfl ?_
      refine zGo_keep [0, 1, 2] rfl ?_
      exact m12_set_21_ok Hy hE x1 x2 x2 (1 : Int32) M1 h
theorem m12_set_met {l : Launch} {G : zG} (hG : zGok G) (hcn : zgcn G = zcR) {x1 : Int32} {x2 : Int32} {M : rM} {r : Int32} {M' : rM} (h : m12_set x1 x2 M = some (r, M')) : zMet l G yX12_set cX12_set 4 (some .int) 1 22 [.inr (.inr (some (12, 0))), .inl x1, .inl x2] (zfR M) (some (.inl r)) (zfR M') :=
  zMet_of hG tbX12_ok rfl (by decide +kernel) (Nat.le_of_ble_eq_true rfl) (fun X _ Z hA hE => m12_set_ok ⟨Z, hcn, hA⟩ hE x1 x2 M h)
abbrev q12_power : ByteArray × Nat × String × zT := (cX12_power, 4, RX12, tbX12)
def m12_power (x1 : Int32) (x2 : Int32) (M : rM) : Option (Int32 × rM) := zbd (m12_isBox x1 M) (fun r1 M1 => (if r1 = 0 then some ((-2 : Int32), M1) else zbd (m12_in x2 (0 : Int32) (30000 : Int32) M1) (fun r2 M2 => (if r2 = 0 then some ((-3 : Int32), M2) else zgd (zin x1 10 && (zin x1 10 && true)) (some (rg M2 1302 0 (nx x1), rs M2 1302 0 (nx x1) x2))))))
theorem m12_power_ok {X : zX} {G : zG} (Hy : zHy X G q12_power zcR 2 43 (some .int)) {r : Int32} {M' : rM} (hE : zEnd X G (some (.inl r)) (zfR M')) (x1 : Int32) (x2 : Int32) (M : rM) (h : m12_power x1 x2 M = some (r, M')) : zGo (X, q12_power, G) 0 0 (0, [(0, .inr (.inr (some (12, 0)))), (1, .inl x1), (2, .inl x2)], [], zfR M) := by
  unfold m12_power at h
  refine zblq Hy.1 Hy.2.1 [(.aload 0, 1), (.iload 1, 1)] (S' := (2, [(0, .inr (.inr (some (12, 0)))), (1, .inl x1), (2, .inl x2)], [.inl x1, .inr (.inr (some (12, 0)))], zfR M)) (b := true) (by decide +kernel) rfl rfl ?_
  obtain ⟨r1, M1, hc1, h⟩ := zbd_inv h
  refine zcallV Hy.1 (as := [.inl x1]) (st := []) (m12_isBox_met (zOK_G Hy.1) Hy.2.1 hc1) cw12_175 m12_isBox_in m12_isBox_se (by decide) (zhlv Hy.2.1 rfl) rfl (zroom Hy.2.2 ⟨by decide, by decide⟩) rfl (by decide +kernel) ⟨Nat.zero_le _, Nat.zero_le _⟩ ?_
  refine zif_ne Hy.1 (off := 6) (tgt := 11) (by decide +kernel) (by decide) (fun hb5 => ?_) (fun hb5 => ?_)
  · replace h := zite_f h hb5
    refine zblq Hy.1 Hy.2.1 [(.iload 2, 1), (.iconst 0, 1), (.iconst 30000, 3)] (S' := (16, [(0, .inr (.inr (some (12, 0)))), (1, .inl x1), (2, .inl x2)], [.inl (30000 : Int32), .inl (0 : Int32), .inl x2], zfR M1)) (b := true) (by decide +kernel) rfl rfl ?_
    obtain ⟨r2, M2, hc2, h⟩ := zbd_inv h
    refine zcallS Hy.1 (as := [.inl x2, .inl (0 : Int32), .inl (30000 : Int32)]) (st := []) (m12_in_met (zOK_G Hy.1) Hy.2.1 hc2) cw12_171 m12_in_in rfl (zroom Hy.2.2 ⟨by decide, by decide⟩) rfl (by decide +kernel) ⟨Nat.zero_le _, Nat.zero_le _⟩ ?_
    refine zif_ne Hy.1 (off := 6) (tgt := 25) (by decide +kernel) (by decide) (fun hb4 => ?_) (fun hb4 => ?_)
    · replace h := zite_f h hb4
      obtain ⟨hg3, h⟩ := zgd_inv h
      refine zblq Hy.1 Hy.2.1 [(.aload 0, 1), (.getfield 1202, 3), (.iload 1, 1), (.iaload, 1), (.istore 3, 1), (.aload 0, 1), (.getfield 1202, 3), (.iload 1, 1), (.iload 2, 1), (.iastore, 1), (.iload 3, 1)] (S' := (40, [(0, .inr (.inr (some (12, 0)))), (1, .inl x1), (2, .inl x2), (3, .inl (rg M2 1302 0 (nx x1)))], [.inl (rg M2 1302 0 (nx x1))], zfR (rs M2 1302 0 (nx x1) x2))) (b := zin x1 10 && (zin x1 10 && true)) (by decide +kernel) rfl hg3 ?_
      cases h
      exact zret_i Hy.1 Hy.2.2 hE (by decide +kernel)
    · replace h := zite_t h hb4
      refine zblq Hy.1 Hy.2.1 [(.iconst (-3), 2)] (S' := (24, [(0, .inr (.inr (some (12, 0)))), (1, .inl x1), (2, .inl x2)], [.inl (-3 : Int32)], zfR M2)) (b := true) (by decide +kernel) rfl rfl ?_
      cases h
      exact zret_i Hy.1 Hy.2.2 hE (by decide +kernel)
  · replace h := zite_t h hb5
    refine zblq Hy.1 Hy.2.1 [(.iconst (-2), 2)] (S' := (10, [(0, .inr (.inr (some (12, 0)))), (1, .inl x1), (2, .inl x2)], [.inl (-2 : Int32)], zfR M1)) (b := true) (by decide +kernel) rfl rfl ?_
    cases h
    exact zret_i Hy.1 Hy.2.2 hE (by decide +kernel)
theorem m12_power_met {l : Launch} {G : zG} (hG : zGok G) (hcn : zgcn G = zcR) {x1 : Int32} {x2 : Int32} {M : rM} {r : Int32} {M' : rM} (h : m12_power x1 x2 M = some (r, M')) : zMet l G yX12_power cX12_power 4 (some .int) 2 43 [.inr (.inr (some (12, 0))), .inl x1, .inl x2] (zfR M) (some (.inl r)) (zfR M') :=
  zMet_of hG tbX12_ok rfl (by decide +kernel) (Nat.le_of_ble_eq_true rfl) (fun X _ Z hA hE => m12_power_ok ⟨Z, hcn, hA⟩ hE x1 x2 M h)
abbrev q12_local : ByteArray × Nat × String × zT := (cX12_local, 3, RX12, tbX12)
def m12_local (x1 : Int32) (x2 : Int32) (M : rM) : Option (Int32 × rM) := zgd (zin x1 10 && (znz (100 : Int32) && (zin x1 10 && true))) (some ((x2 + (((rg M 1305 0 (nx x1)) * x2) / (100 : Int32))) + (rg M 1306 0 (nx x1)), M))
theorem m12_local_ok {X : zX} {G : zG} (Hy : zHy X G q12_local zcR 0 0 (some .int)) {r : Int32} {M' : rM} (hE : zEnd X G (some (.inl r)) (zfR M')) (x1 : Int32) (x2 : Int32) (M : rM) (h : m12_local x1 x2 M = some (r, M')) : zGo (X, q12_local, G) 0 0 (0, [(0, .inr (.inr (some (12, 0)))), (1, .inl x1), (2, .inl x2)], [], zfR M) := by
  unfold m12_local at h
  obtain ⟨hg1, h⟩ := zgd_inv h
  refine zblq Hy.1 Hy.2.1 [(.iload 2, 1), (.aload 0, 1), (.getfield 1205, 3), (.iload 1, 1), (.iaload, 1), (.iload 2, 1), (.imul, 1), (.iconst 100, 2), (.idiv, 1), (.iadd, 1), (.aload 0, 1), (.getfield 1206, 3), (.iload 1, 1), (.iaload, 1), (.iadd, 1)] (S' := (20, [(0, .inr (.inr (some (12, 0)))), (1, .inl x1), (2, .inl x2)], [.inl ((x2 + (((rg M 1305 0 (nx x1)) * x2) / (100 : Int32))) + (rg M 1306 0 (nx x1)))], zfR M)) (b := zin x1 10 && (znz (100 : Int32) && (zin x1 10 && true))) (by decide +kernel) rfl hg1 ?_
  cases h
  exact zret_i Hy.1 Hy.2.2 hE (by decide +kernel)
theorem m12_local_met {l : Launch} {G : zG} (hG : zGok G) (hcn : zgcn G = zcR) {x1 : Int32} {x2 : Int32} {M : rM} {r : Int32} {M' : rM} (h : m12_local x1 x2 M = some (r, M')) : zMet l G yX12_local cX12_local 3 (some .int) 0 0 [.inr (.inr (some (12, 0))), .inl x1, .inl x2] (zfR M) (some (.inl r)) (zfR M') :=
  zMet_of hG tbX12_ok rfl (by decide +kernel) (Nat.le_of_ble_eq_true rfl) (fun X _ Z hA hE => m12_local_ok ⟨Z, hcn, hA⟩ hE x1 x2 M h)
abbrev q12_isOn : ByteArray × Nat × String × zT := (cX12_isOn, 4, RX12, tbX12)
def m12_isOn_36 (t0 : Int32) (t1 : Int32) (M : rM) : Option (Int32 × rM) := zbd (m12_isIn t0 t1 M) (fun r3 M3 => zgd (zbl r3) (some (r3, M3)))
theorem m12_isOn_36_ok {X : zX} {G : zG} (Hy : zHy X G q12_isOn zcR 1 22 (some .boolean)) {r : Int32} {M' : rM} (hE : zEnd X G (some (.inl r)) (zfR M')) (t0 : Int32) (t1 : Int32) (M : rM) (h : m12_isOn_36 t0 t1 M = some (r, M')) : zGo (X, q12_isOn, G) 0 0 (36, [], [.inl t1, .inl t0], zfR M) := by
  unfold m12_isOn_36 at h
  obtain ⟨r3, M3, hc3, h⟩ := zbd_inv h
  refine zcallS Hy.1 (as := [.inl t0, .inl t1]) (st := []) (m12_isIn_met (zOK_G Hy.1) Hy.2.1 hc3) cw12_183 m12_isIn_in rfl (zroom Hy.2.2 ⟨by decide, by decide⟩) rfl (by decide +kernel) ⟨Nat.zero_le _, Nat.zero_le _⟩ ?_
  obtain ⟨hg4, h⟩ := zgd_inv h
  cases h
  exact zret_z Hy.1 Hy.2.2 hg4 hE (by decide +kernel)
def m12_isOn (x1 : Int32) (x2 : Int32) (M : rM) : Option (Int32 × rM) := zbd (m12_local x1 x2 M) (fun r1 M1 => zgd (zin x1 10 && (znz (rg M1 1303 0 (nx x1)) && (zin x1 10 && true))) ((if 0 ≤ (zrem r1 (rg M1 1303 0 (nx x1))) then m12_isOn_36 (rg M1 1304 0 (nx x1)) (zrem r1 (rg M1 1303 0 (nx x1))) M1 else zgd (zin x1 10 && true) (m12_isOn_36 (rg M1 1304 0 (nx x1)) ((zrem r1 (rg M1 1303 0 (nx x1))) + (rg M1 1303 0 (nx x1))) M1))))
theorem m12_isOn_ok {X : zX} {G : zG} (Hy : zHy X G q12_isOn zcR 1 22 (some .boolean)) {r : Int32} {M' : rM} (hE : zEnd X G (some (.inl r)) (zfR M')) (x1 : Int32) (x2 : Int32) (M : rM) (h : m12_isOn x1 x2 M = some (r, M')) : zGo (X, q12_isOn, G) 0 0 (0, [(0, .inr (.inr (some (12, 0)))), (1, .inl x1), (2, .inl x2)], [], zfR M) := by
  unfold m12_isOn at h
  refine zblq Hy.1 Hy.2.1 [(.aload 0, 1), (.iload 1, 1), (.iload 2, 1)] (S' := (3, [(0, .inr (.inr (some (12, 0)))), (1, .inl x1), (2, .inl x2)], [.inl x2, .inl x1, .inr (.inr (some (12, 0)))], zfR M)) (b := true) (by decide +kernel) rfl rfl ?_
  obtain ⟨r1, M1, hc1, h⟩ := zbd_inv h
  refine zcallV Hy.1 (as := [.inl x1, .inl x2]) (st := []) (m12_local_met (zOK_G Hy.1) Hy.2.1 hc1) cw12_179 m12_local_in m12_local_se (by decide) (zhlv Hy.2.1 rfl) rfl (zroom Hy.2.2 ⟨by decide, by decide⟩) rfl (by decide +kernel) ⟨Nat.zero_le _, Nat.zero_le _⟩ ?_
  obtain ⟨hg2, h⟩ := zgd_inv h
  refine zblq Hy.1 Hy.2.1 [(.aload 0, 1), (.getfield 1203, 3), (.iload 1, 1), (.iaload, 1), (.irem, 1), (.istore 3, 1), (.aload 0, 1), (.getfield 1204, 3), (.iload 1, 1), (.iaload, 1), (.iload 3, 1)] (S' := (21, [(0, .inr (.inr (some (12, 0)))), (1, .inl x1), (2, .inl x2), (3, .inl (zrem r1 (rg M1 1303 0 (nx x1))))], [.inl (zrem r1 (rg M1 1303 0 (nx x1))), .inl (rg M1 1304 0 (nx x1))], zfR M1)) (b := zin x1 10 && (znz (rg M1 1303 0 (nx x1)) && (zin x1 10 && true))) (by decide +kernel) rfl hg2 ?_
  refine zif_ge Hy.1 (off := 14) (tgt := 35) (by decide +kernel) (by decide) (fun hb6 => ?_) (fun hb6 => ?_)
  · replace h := zite_t h hb6
    refine zblq Hy.1 Hy.2.1 [(.iload 3, 1)] (S' := (36, [(0, .inr (.inr (some (12, 0)))), (1, .inl x1), (2, .inl x2), (3, .inl (zrem r1 (rg M1 1303 0 (nx x1))))], [.inl (zrem r1 (rg M1 1303 0 (nx x1))), .inl (rg M1 1304 0 (nx x1))], zfR M1)) (b := true) (by decide +kernel) rfl rfl ?_
    refine zGo_keep [] rfl ?_
    exact m12_isOn_36_ok Hy hE (rg M1 1304 0 (nx x1)) (zrem r1 (rg M1 1303 0 (nx x1))) M1 h
  · replace h := zite_f h hb6
    obtain ⟨hg5, h⟩ := zgd_inv h
    refine zblq Hy.1 Hy.2.1 [(.iload 3, 1), (.aload 0, 1), (.getfield 1203, 3), (.iload 1, 1), (.iaload, 1), (.iadd, 1), (.ldc 36, 3)] (S' := (36, [(0, .inr (.inr (some (12, 0)))), (1, .inl x1), (2, .inl x2), (3, .inl (zrem r1 (rg M1 1303 0 (nx x1))))], [.inl ((zrem r1 (rg M1 1303 0 (nx x1))) + (rg M1 1303 0 (nx x1))), .inl (rg M1 1304 0 (nx x1))], zfR M1)) (b := zin x1 10 && true) (by decide +kernel) rfl hg5 ?_
    refine zGo_keep [] rfl ?_
    exact m12_isOn_36_ok Hy hE (rg M1 1304 0 (nx x1)) ((zrem r1 (rg M1 1303 0 (nx x1))) + (rg M1 1303 0 (nx x1))) M1 h
theorem m12_isOn_met {l : Launch} {G : zG} (hG : zGok G) (hcn : zgcn G = zcR) {x1 : Int32} {x2 : Int32} {M : rM} {r : Int32} {M' : rM} (h : m12_isOn x1 x2 M = some (r, M')) : zMet l G yX12_isOn cX12_isOn 4 (some .boolean) 1 22 [.inr (.inr (some (12, 0))), .inl x1, .inl x2] (zfR M) (some (.inl r)) (zfR M') :=
  zMet_of hG tbX12_ok rfl (by decide +kernel) (Nat.le_of_ble_eq_true rfl) (fun X _ Z hA hE => m12_isOn_ok ⟨Z, hcn, hA⟩ hE x1 x2 M h)
abbrev q12_countOf : ByteArray × Nat × String × zT := (cX12_countOf, 2, RX12, tbX12)
def m12_countOf (x1 : Int32) (M : rM) : Option (Int32 × rM) := (if x1 ≤ 0 then zgd (zin (0 : Int32) 10 && true) ((if (rg M 1302 0 (nx (0 : Int32))) ≤ 0 then some ((-1 : Int32), M) else some ((0 : Int32), M))) else zgd (zin x1 10 && true) (some (rg M 1308 0 (nx x1), M)))
theorem m12_countOf_ok {X : zX} {G : zG} (Hy : zHy X G q12_countOf zcR 0 0 (some .int)) {r : Int32} {M' : rM} (hE : zEnd X G (some (.inl r)) (zfR M')) (x1 : Int32) (M : rM) (h : m12_countOf x1 M = some (r, M')) : zGo (X, q12_countOf, G) 0 0 (0, [(0, .inr (.inr (some (12, 0)))), (1, .inl x1)], [], zfR M) := by
  unfold m12_countOf at h
  refine zblq Hy.1 Hy.2.1 [(.iload 1, 1)] (S' := (1, [(0, .inr (.inr (some (12, 0)))), (1, .inl x1)], [.inl x1], zfR M)) (b := true) (by decide +kernel) rfl rfl ?_
  refine zif_le Hy.1 (off := 12) (tgt := 13) (by decide +kernel) (by decide) (fun hb4 => ?_) (fun hb4 => ?_)
  · replace h := zite_t h hb4
    obtain ⟨hg1, h⟩ := zgd_inv h
    refine zblq Hy.1 Hy.2.1 [(.aload 0, 1), (.getfield 1202, 3), (.iconst 0, 1), (.iaload, 1)] (S' := (19, [(0, .inr (.inr (some (12, 0)))), (1, .inl x1)], [.inl (rg M 1302 0 (nx (0 : Int32)))], zfR M)) (b := zin (0 : Int32) 10 && true) (by decide +kernel) rfl hg1 ?_
    refine zif_le Hy.1 (off := 7) (tgt := 26) (by decide +kernel) (by decide) (fun hb2 => ?_) (fun hb2 => ?_)
    · replace h := zite_t h hb2
      refine zblq Hy.1 Hy.2.1 [(.iconst (-1), 1)] (S' := (27, [(0, .inr (.inr (some (12, 0)))), (1, .inl x1)], [.inl (-1 : Int32)], zfR M)) (b := true) (by decide +kernel) rfl rfl ?_
      cases h
      exact zret_i Hy.1 Hy.2.2 hE (by decide +kernel)
    · replace h := zite_f h hb2
      refine zblq Hy.1 Hy.2.1 [(.iconst 0, 1), (.ldc 27, 3)] (S' := (27, [(0, .inr (.inr (some (12, 0)))), (1, .inl x1)], [.inl (0 : Int32)], zfR M)) (b := true) (by decide +kernel) rfl rfl ?_
      cases h
      exact zret_i Hy.1 Hy.2.2 hE (by decide +kernel)
  · replace h := zite_f h hb4
    obtain ⟨hg3, h⟩ := zgd_inv h
    refine zblq Hy.1 Hy.2.1 [(.aload 0, 1), (.getfield 1208, 3), (.iload 1, 1), (.iaload, 1), (.ldc 27, 3)] (S' := (27, [(0, .inr (.inr (some (12, 0)))), (1, .inl x1)], [.inl (rg M 1308 0 (nx x1))], zfR M)) (b := zin x1 10 && true) (by decide +kernel) rfl hg3 ?_
    cases h
    exact zret_i Hy.1 Hy.2.2 hE (by decide +kernel)
theorem m12_countOf_met {l : Launch} {G : zG} (hG : zGok G) (hcn : zgcn G = zcR) {x1 : Int32} {M : rM} {r : Int32} {M' : rM} (h : m12_countOf x1 M = some (r, M')) : zMet l G yX12_countOf cX12_countOf 2 (some .int) 0 0 [.inr (.inr (some (12, 0))), .inl x1] (zfR M) (some (.inl r)) (zfR M') :=
  zMet_of hG tbX12_ok rfl (by decide +kernel) (Nat.le_of_ble_eq_true rfl) (fun X _ Z hA hE => m12_countOf_ok ⟨Z, hcn, hA⟩ hE x1 M h)
abbrev q12_at : ByteArray × Nat × String × zT := (cX12_at, 3, RX12, tbX12)
def m12_at (x1 : Int32) (x2 : Int32) (M : rM) : Option (Int32 × rM) := zbd (m12_isBox x1 M) (fun r1 M1 => (if r1 = 0 then some ((-2 : Int32), M1) else (if x2 = 0 then zgd (zin x1 10 && true) (some (rg M1 1302 0 (nx x1), M1)) else (if x2 = 1 then zbd (m12_countOf x1 M1) (fun r4 M4 => some (r4, M4)) else (if x2 = 2 then zgd (zin x1 10 && true) (some (rg M1 1309 0 (nx x1), M1)) else (if x2 = 3 then zbd (m12_local x1 (rg M1 12 0 13) M1) (fun r6 M6 => some (r6, M6)) else (if x2 = 4 then zgd (zin x1 10 && true) ((if (rg M1 1302 0 (nx x1)) ≤ 0 then some ((0 : Int32), M1) else zbd (m12_isOn x1 (rg M1 12 0 13) M1) (fun r8 M8 => (if r8 = 0 then some ((0 : Int32), M8) else some ((1 : Int32), M8))))) else (if x2 = 5 then zgd (zin x1 10 && true) (some (rg M1 1314 0 (nx x1), M1)) else (some ((-3 : Int32), M1))))))))))
theorem m12_at_ok {X : zX} {G : zG} (Hy : zHy X G q12_at zcR 2 45 (some .int)) {r : Int32} {M' : rM} (hE : zEnd X G (some (.inl r)) (zfR M')) (x1 : Int32) (x2 : Int32) (M : rM) (h : m12_at x1 x2 M = some (r, M')) : zGo (X, q12_at, G) 0 0 (0, [(0, .inr (.inr (some (12, 0)))), (1, .inl x1), (2, .inl x2)], [], zfR M) := by
  unfold m12_at at h
  refine zblq Hy.1 Hy.2.1 [(.aload 0, 1), (.iload 1, 1)] (S' := (2, [(0, .inr (.inr (some (12, 0)))), (1, .inl x1), (2, .inl x2)], [.inl x1, .inr (.inr (some (12, 0)))], zfR M)) (b := true) (by decide +kernel) rfl rfl ?_
  obtain ⟨r1, M1, hc1, h⟩ := zbd_inv h
  refine zcallV Hy.1 (as := [.inl x1]) (st := []) (m12_isBox_met (zOK_G Hy.1) Hy.2.1 hc1) cw12_175 m12_isBox_in m12_isBox_se (by decide) (zhlv Hy.2.1 rfl) rfl (zroom Hy.2.2 ⟨by decide, by decide⟩) rfl (by decide +kernel) ⟨Nat.zero_le _, Nat.zero_le _⟩ ?_
  refine zif_ne Hy.1 (off := 6) (tgt := 11) (by decide +kernel) (by decide) (fun hb12 => ?_) (fun hb12 => ?_)
  · replace h := zite_f h hb12
    refine zblq Hy.1 Hy.2.1 [(.iload 2, 1)] (S' := (12, [(0, .inr (.inr (some (12, 0)))), (1, .inl x1), (2, .inl x2)], [.inl x2], zfR M1)) (b := true) (by decide +kernel) rfl rfl ?_
    have hd2 : decode cX12_at 12 = .ok (.tableswitch 104 0 5 #[40, 47, 53, 60, 70, 97], 40) := by decide +kernel
    by_cases hs2_0 : x2 = (0 : Int32)
    · replace h := zite_t h hs2_0
      refine zsw_in Hy.1 (v := 0) (tgt := 52) (off := 40) hs2_0 hd2 (by decide +kernel) (by decide) ?_
      obtain ⟨hg3, h⟩ := zgd_inv h
      refine zblq Hy.1 Hy.2.1 [(.aload 0, 1), (.getfield 1202, 3), (.iload 1, 1), (.iaload, 1)] (S' := (58, [(0, .inr (.inr (some (12, 0)))), (1, .inl x1), (2, .inl x2)], [.inl (rg M1 1302 0 (nx x1))], zfR M1)) (b := zin x1 10 && true) (by decide +kernel) rfl hg3 ?_
      cases h
      exact zret_i Hy.1 Hy.2.2 hE (by decide +kernel)
    replace h := zite_f h hs2_0
    by_cases hs2_1 : x2 = (1 : Int32)
    · replace h := zite_t h hs2_1
      refine zsw_in Hy.1 (v := 1) (tgt := 59) (off := 47) hs2_1 hd2 (by decide +kernel) (by decide) ?_
      refine zblq Hy.1 Hy.2.1 [(.aload 0, 1), (.iload 1, 1)] (S' := (61, [(0, .inr (.inr (some (12, 0)))), (1, .inl x1), (2, .inl x2)], [.inl x1, .inr (.inr (some (12, 0)))], zfR M1)) (b := true) (by decide +kernel) rfl rfl ?_
      obtain ⟨r4, M4, hc4, h⟩ := zbd_inv h
      refine zcallV Hy.1 (as := [.inl x1]) (st := []) (m12_countOf_met (zOK_G Hy.1) Hy.2.1 hc4) cw12_187 m12_countOf_in m12_countOf_se (by decide) (zhlv Hy.2.1 rfl) rfl (zroom Hy.2.2 ⟨by decide, by decide⟩) rfl (by decide +kernel) ⟨Nat.zero_le _, Nat.zero_le _⟩ ?_
      cases h
      exact zret_i Hy.1 Hy.2.2 hE (by decide +kernel)
    replace h := zite_f h hs2_1
    by_cases hs2_2 : x2 = (2 : Int32)
    · replace h := zite_t h hs2_2
      refine zsw_in Hy.1 (v := 2) (tgt := 65) (off := 53) hs2_2 hd2 (by decide +kernel) (by decide) ?_
      obtain ⟨hg5, h⟩ := zgd_inv h
      refine zblq Hy.1 Hy.2.1 [(.aload 0, 1), (.getfield 1209, 3), (.iload 1, 1), (.iaload, 1)] (S' := (71, [(0, .inr (.inr (some (12, 0)))), (1, .inl x1), (2, .inl x2)], [.inl (rg M1 1309 0 (nx x1))], zfR M1)) (b := zin x1 10 && true) (by decide +kernel) rfl hg5 ?_
      cases h
      exact zret_i Hy.1 Hy.2.2 hE (by decide +kernel)
    replace h := zite_f h hs2_2
    by_cases hs2_3 : x2 = (3 : Int32)
    · replace h := zite_t h hs2_3
      refine zsw_in Hy.1 (v := 3) (tgt := 72) (off := 60) hs2_3 hd2 (by decide +kernel) (by decide) ?_
      refine zblq Hy.1 Hy.2.1 [(.aload 0, 1), (.iload 1, 1), (.aload 0, 1), (.multianewarray 12 13, 3)] (S' := (78, [(0, .inr (.inr (some (12, 0)))), (1, .inl x1), (2, .inl x2)], [.inl (rg M1 12 0 13), .inl x1, .inr (.inr (some (12, 0)))], zfR M1)) (b := true) (by decide +kernel) rfl rfl ?_
      obtain ⟨r6, M6, hc6, h⟩ := zbd_inv h
      refine zcallV Hy.1 (as := [.inl x1, .inl (rg M1 12 0 13)]) (st := []) (m12_local_met (zOK_G Hy.1) Hy.2.1 hc6) cw12_179 m12_local_in m12_local_se (by decide) (zhlv Hy.2.1 rfl) rfl (zroom Hy.2.2 ⟨by decide, by decide⟩) rfl (by decide +kernel) ⟨Nat.zero_le _, Nat.zero_le _⟩ ?_
      cases h
      exact zret_i Hy.1 Hy.2.2 hE (by decide +kernel)
    replace h := zite_f h hs2_3
    by_cases hs2_4 : x2 = (4 : Int32)
    · replace h := zite_t h hs2_4
      refine zsw_in Hy.1 (v := 4) (tgt := 82) (off := 70) hs2_4 hd2 (by decide +kernel) (by decide) ?_
      obtain ⟨hg7, h⟩ := zgd_inv h
      refine zblq Hy.1 Hy.2.1 [(.aload 0, 1), (.getfield 1202, 3), (.iload 1, 1), (.iaload, 1)] (S' := (88, [(0, .inr (.inr (some (12, 0)))), (1, .inl x1), (2, .inl x2)], [.inl (rg M1 1302 0 (nx x1))], zfR M1)) (b := zin x1 10 && true) (by decide +kernel) rfl hg7 ?_
      refine zif_le Hy.1 (off := 19) (tgt := 107) (by decide +kernel) (by decide) (fun hb10 => ?_) (fun hb10 => ?_)
      · replace h := zite_t h hb10
        refine zblq Hy.1 Hy.2.1 [(.iconst 0, 1)] (S' := (108, [(0, .inr (.inr (some (12, 0)))), (1, .inl x1), (2, .inl x2)], [.inl (0 : Int32)], zfR M1)) (b := true) (by decide +kernel) rfl rfl ?_
        cases h
        exact zret_i Hy.1 Hy.2.2 hE (by decide +kernel)
      · replace h := zite_f h hb10
        refine zblq Hy.1 Hy.2.1 [(.aload 0, 1), (.iload 1, 1), (.aload 0, 1), (.multianewarray 12 13, 3)] (S' := (97, [(0, .inr (.inr (some (12, 0)))), (1, .inl x1), (2, .inl x2)], [.inl (rg M1 12 0 13), .inl x1, .inr (.inr (some (12, 0)))], zfR M1)) (b := true) (by decide +kernel) rfl rfl ?_
        obtain ⟨r8, M8, hc8, h⟩ := zbd_inv h
        refine zcallV Hy.1 (as := [.inl x1, .inl (rg M1 12 0 13)]) (st := []) (m12_isOn_met (zOK_G Hy.1) Hy.2.1 hc8) cw12_194 m12_isOn_in m12_isOn_se (by decide) (zhlv Hy.2.1 rfl) rfl (zroom Hy.2.2 ⟨by decide, by decide⟩) rfl (by decide +kernel) ⟨Nat.zero_le _, Nat.zero_le _⟩ ?_
        refine zif_eq Hy.1 (off := 7) (tgt := 107) (by decide +kernel) (by decide) (fun hb9 => ?_) (fun hb9 => ?_)
        · replace h := zite_t h hb9
          refine zblq Hy.1 Hy.2.1 [(.iconst 0, 1)] (S' := (108, [(0, .inr (.inr (some (12, 0)))), (1, .inl x1), (2, .inl x2)], [.inl (0 : Int32)], zfR M8)) (b := true) (by decide +kernel) rfl rfl ?_
          cases h
          exact zret_i Hy.1 Hy.2.2 hE (by decide +kernel)
        · replace h := zite_f h hb9
          refine zblq Hy.1 Hy.2.1 [(.iconst 1, 1), (.ldc 108, 3)] (S' := (108, [(0, .inr (.inr (some (12, 0)))), (1, .inl x1), (2, .inl x2)], [.inl (1 : Int32)], zfR M8)) (b := true) (by decide +kernel) rfl rfl ?_
          cases h
          exact zret_i Hy.1 Hy.2.2 hE (by decide +kernel)
    replace h := zite_f h hs2_4
    by_cases hs2_5 : x2 = (5 : Int32)
    · replace h := zite_t h hs2_5
      refine zsw_in Hy.1 (v := 5) (tgt := 109) (off := 97) hs2_5 hd2 (by decide +kernel) (by decide) ?_
      obtain ⟨hg11, h⟩ := zgd_inv h
      refine zblq Hy.1 Hy.2.1 [(.aload 0, 1), (.getfield 1214, 3), (.iload 1, 1), (.iaload, 1)] (S' := (115, [(0, .inr (.inr (some (12, 0)))), (1, .inl x1), (2, .inl x2)], [.inl (rg M1 1314 0 (nx x1))], zfR M1)) (b := zin x1 10 && true) (by decide +kernel) rfl hg11 ?_
      cases h
      exact zret_i Hy.1 Hy.2.2 hE (by decide +kernel)
    replace h := zite_f h hs2_5
    refine zsw_out Hy.1 hd2 (zsw_far 6 (by decide) (fun j hj => match j, hj with | 0, _ => hs2_0 | 1, _ => hs2_1 | 2, _ => hs2_2 | 3, _ => hs2_3 | 4, _ => hs2_4 | 5, _ => hs2_5)) (by decide : (12 : Int) + 104 = (116 : Int)) ?_
    refine zblq Hy.1 Hy.2.1 [(.iconst (-3), 2)] (S' := (118, [(0, .inr (.inr (some (12, 0)))), (1, .inl x1), (2, .inl x2)], [.inl (-3 : Int32)], zfR M1)) (b := true) (by decide +kernel) rfl rfl ?_
    cases h
    exact zret_i Hy.1 Hy.2.2 hE (by decide +kernel)
  · replace h := zite_t h hb12
    refine zblq Hy.1 Hy.2.1 [(.iconst (-2), 2)] (S' := (10, [(0, .inr (.inr (some (12, 0)))), (1, .inl x1), (2, .inl x2)], [.inl (-2 : Int32)], zfR M1)) (b := true) (by decide +kernel) rfl rfl ?_
    cases h
    exact zret_i Hy.1 Hy.2.2 hE (by decide +kernel)
theorem m12_at_met {l : Launch} {G : zG} (hG : zGok G) (hcn : zgcn G = zcR) {x1 : Int32} {x2 : Int32} {M : rM} {r : Int32} {M' : rM} (h : m12_at x1 x2 M = some (r, M')) : zMet l G yX12_at cX12_at 3 (some .int) 2 45 [.inr (.inr (some (12, 0))), .inl x1, .inl x2] (zfR M) (some (.inl r)) (zfR M') :=
  zMet_of hG tbX12_ok rfl (by decide +kernel) (Nat.le_of_ble_eq_true rfl) (fun X _ Z hA hE => m12_at_ok ⟨Z, hcn, hA⟩ hE x1 x2 M h)
abbrev q12_areMates : ByteArray × Nat × String × zT := (cX12_areMates, 3, RX12, tbX12)
def m12_areMates (x1 : Int32) (x2 : Int32) (M : rM) : Option (Int32 × rM) := zgd (zin x1 10 && true) (zbd (m12_isIn (rg M 1307 0 (nx x1)) x2 M) (fun r2 M2 => (if r2 = 0 then some ((0 : Int32), M2) else zgd (zin x2 10 && true) (zbd (m12_isIn (rg M2 1307 0 (nx x2)) x1 M2) (fun r4 M4 => (if r4 = 0 then some ((0 : Int32), M4) else some ((1 : Int32), M4)))))))
theorem m12_areMates_ok {X : zX} {G : zG} (Hy : zHy X G q12_areMates zcR 1 21 (some .boolean)) {r : Int32} {M' : rM} (hE : zEnd X G (some (.inl r)) (zfR M')) (x1 : Int32) (x2 : Int32) (M : rM) (h : m12_areMates x1 x2 M = some (r, M')) : zGo (X, q12_areMates, G) 0 0 (0, [(0, .inr (.inr (some (12, 0)))), (1, .inl x1), (2, .inl x2)], [], zfR M) := by
  unfold m12_areMates at h
  obtain ⟨hg1, h⟩ := zgd_inv h
  refine zblq Hy.1 Hy.2.1 [(.aload 0, 1), (.getfield 1207, 3), (.iload 1, 1), (.iaload, 1), (.iload 2, 1)] (S' := (7, [(0, .inr (.inr (some (12, 0)))), (1, .inl x1), (2, .inl x2)], [.inl x2, .inl (rg M 1307 0 (nx x1))], zfR M)) (b := zin x1 10 && true) (by decide +kernel) rfl hg1 ?_
  obtain ⟨r2, M2, hc2, h⟩ := zbd_inv h
  refine zcallS Hy.1 (as := [.inl (rg M 1307 0 (nx x1)), .inl x2]) (st := []) (m12_isIn_met (zOK_G Hy.1) Hy.2.1 hc2) cw12_183 m12_isIn_in rfl (zroom Hy.2.2 ⟨by decide, by decide⟩) rfl (by decide +kernel) ⟨Nat.zero_le _, Nat.zero_le _⟩ ?_
  refine zif_eq Hy.1 (off := 20) (tgt := 30) (by decide +kernel) (by decide) (fun hb6 => ?_) (fun hb6 => ?_)
  · replace h := zite_t h hb6
    refine zblq Hy.1 Hy.2.1 [(.iconst 0, 1)] (S' := (31, [(0, .inr (.inr (some (12, 0)))), (1, .inl x1), (2, .inl x2)], [.inl (0 : Int32)], zfR M2)) (b := true) (by decide +kernel) rfl rfl ?_
    cases h
    exact zret_z Hy.1 Hy.2.2 (by decide) hE (by decide +kernel)
  · replace h := zite_f h hb6
    obtain ⟨hg3, h⟩ := zgd_inv h
    refine zblq Hy.1 Hy.2.1 [(.aload 0, 1), (.getfield 1207, 3), (.iload 2, 1), (.iaload, 1), (.iload 1, 1)] (S' := (20, [(0, .inr (.inr (some (12, 0)))), (1, .inl x1), (2, .inl x2)], [.inl x1, .inl (rg M2 1307 0 (nx x2))], zfR M2)) (b := zin x2 10 && true) (by decide +kernel) rfl hg3 ?_
    obtain ⟨r4, M4, hc4, h⟩ := zbd_inv h
    refine zcallS Hy.1 (as := [.inl (rg M2 1307 0 (nx x2)), .inl x1]) (st := []) (m12_isIn_met (zOK_G Hy.1) Hy.2.1 hc4) cw12_183 m12_isIn_in rfl (zroom Hy.2.2 ⟨by decide, by decide⟩) rfl (by decide +kernel) ⟨Nat.zero_le _, Nat.zero_le _⟩ ?_
    refine zif_eq Hy.1 (off := 7) (tgt := 30) (by decide +kernel) (by decide) (fun hb5 => ?_) (fun hb5 => ?_)
    · replace h := zite_t h hb5
      refine zblq Hy.1 Hy.2.1 [(.iconst 0, 1)] (S' := (31, [(0, .inr (.inr (some (12, 0)))), (1, .inl x1), (2, .inl x2)], [.inl (0 : Int32)], zfR M4)) (b := true) (by decide +kernel) rfl rfl ?_
      cases h
      exact zret_z Hy.1 Hy.2.2 (by decide) hE (by decide +kernel)
    · replace h := zite_f h hb5
      refine zblq Hy.1 Hy.2.1 [(.iconst 1, 1), (.ldc 31, 3)] (S' := (31, [(0, .inr (.inr (some (12, 0)))), (1, .inl x1), (2, .inl x2)], [.inl (1 : Int32)], zfR M4)) (b := true) (by decide +kernel) rfl rfl ?_
      cases h
      exact zret_z Hy.1 Hy.2.2 (by decide) hE (by decide +kernel)
theorem m12_areMates_met {l : Launch} {G : zG} (hG : zGok G) (hcn : zgcn G = zcR) {x1 : Int32} {x2 : Int32} {M : rM} {r : Int32} {M' : rM} (h : m12_areMates x1 x2 M = some (r, M')) : zMet l G yX12_areMates cX12_areMates 3 (some .boolean) 1 21 [.inr (.inr (some (12, 0))), .inl x1, .inl x2] (zfR M) (some (.inl r)) (zfR M') :=
  zMet_of hG tbX12_ok rfl (by decide +kernel) (Nat.le_of_ble_eq_true rfl) (fun X _ Z hA hE => m12_areMates_ok ⟨Z, hcn, hA⟩ hE x1 x2 M h)
abbrev q12_goRound : ByteArray × Nat × String × zT := (cX12_goRound, 6, RX12, tbX12)
def m12_goRound_227 : Nat → Int32 → Int32 → rM → Option (Int32 × rM)
  | 0, _, _, _ => none
  | n + 1, x1, x2, M => (if (rg M 12 0 0) ≤ x2 then zgd (zbl x1) (some (x1, M)) else zgd (zin x2 10 && (zin x2 10 && (zin x2 10 && (zin x2 10 && true)))) ((m12_goRound_227 n) x1 (x2 + (1 : Int32)) (rs (rs M 1308 0 (nx x2) (rg M 1310 0 (nx x2))) 1309 0 (nx x2) (rg (rs M 1308 0 (nx x2) (rg M 1310 0 (nx x2))) 1311 0 (nx x2)))))
theorem m12_goRound_227_ok {X : zX} {G : zG} (Hy : zHy X G q12_goRound zcR 2 43 (some .boolean)) {r : Int32} {M' : rM} (hE : zEnd X G (some (.inl r)) (zfR M')) : ∀ (n : Nat) (x1 : Int32) (x2 : Int32) (M : rM), m12_goRound_227 n x1 x2 M = some (r, M') → zGo (X, q12_goRound, G) 0 0 (227, [(0, .inr (.inr (some (12, 0)))), (1, .inl x1), (2, .inl x2)], [], zfR M) := by
  intro n
  induction n with
  | zero => intro x1 x2 M h; cases h
  | succ n ih =>
    intro x1 x2 M h
    unfold m12_goRound_227 at h
    refine zblq Hy.1 Hy.2.1 [(.iload 2, 1), (.aload 0, 1), (.multianewarray 12 0, 3)] (S' := (232, [(0, .inr (.inr (some (12, 0)))), (1, .inl x1), (2, .inl x2)], [.inl (rg M 12 0 0), .inl x2], zfR M)) (b := true) (by decide +kernel) rfl rfl ?_
    refine zic_ge Hy.1 (off := 33) (tgt := 265) (by decide +kernel) (by decide) (fun hb3 => ?_) (fun hb3 => ?_)
    · replace h := zite_t h hb3
      refine zblq Hy.1 Hy.2.1 [(.iload 1, 1)] (S' := (266, [(0, .inr (.inr (some (12, 0)))), (1, .inl x1), (2, .inl x2)], [.inl x1], zfR M)) (b := true) (by decide +kernel) rfl rfl ?_
      obtain ⟨hg1, h⟩ := zgd_inv h
      cases h
      exact zret_z Hy.1 Hy.2.2 hg1 hE (by decide +kernel)
    · replace h := zite_f h hb3
      obtain ⟨hg2, h⟩ := zgd_inv h
      refine zblq Hy.1 Hy.2.1 [(.aload 0, 1), (.getfield 1208, 3), (.iload 2, 1), (.aload 0, 1), (.getfield 1210, 3), (.iload 2, 1), (.iaload, 1), (.iastore, 1), (.aload 0, 1), (.getfield 1209, 3), (.iload 2, 1), (.aload 0, 1), (.getfield 1211, 3), (.iload 2, 1), (.iaload, 1), (.iastore, 1), (.iinc 2 1, 3), (.ldc 227, 3)] (S' := (227, [(0, .inr (.inr (some (12, 0)))), (1, .inl x1), (2, .inl (x2 + (1 : Int32)))], [], zfR (rs (rs M 1308 0 (nx x2) (rg M 1310 0 (nx x2))) 1309 0 (nx x2) (rg (rs M 1308 0 (nx x2) (rg M 1310 0 (nx x2))) 1311 0 (nx x2))))) (b := zin x2 10 && (zin x2 10 && (zin x2 10 && (zin x2 10 && true)))) (by decide +kernel) rfl hg2 ?_
      refine zGo_keep [0, 1, 2] rfl ?_
      exact ih x1 (x2 + (1 : Int32)) (rs (rs M 1308 0 (nx x2) (rg M 1310 0 (nx x2))) 1309 0 (nx x2) (rg (rs M 1308 0 (nx x2) (rg M 1310 0 (nx x2))) 1311 0 (nx x2))) h
def m12_goRound_219 (k4 : Int32 → Int32 → rM → Option (Int32 × rM)) (x1 : Int32) (x2 : Int32) (M : rM) : Option (Int32 × rM) := k4 x1 (x2 + (1 : Int32)) M
theorem m12_goRound_219_ok {X : zX} {G : zG} (Hy : zHy X G q12_goRound zcR 2 43 (some .boolean)) {r : Int32} {M' : rM} (hE : zEnd X G (some (.inl r)) (zfR M')) {k4 : Int32 → Int32 → rM → Option (Int32 × rM)} (hk4 : ∀ (x1 : Int32) (x2 : Int32) (M : rM), k4 x1 x2 M = some (r, M') → zGo (X, q12_goRound, G) 0 0 (4, [(0, .inr (.inr (some (12, 0)))), (1, .inl x1), (2, .inl x2)], [], zfR M)) (x1 : Int32) (x2 : Int32) (M : rM) (h : m12_goRound_219 k4 x1 x2 M = some (r, M')) : zGo (X, q12_goRound, G) 0 0 (219, [(0, .inr (.inr (some (12, 0)))), (1, .inl x1), (2, .inl x2)], [], zfR M) := by
  unfold m12_goRound_219 at h
  refine zblq Hy.1 Hy.2.1 [(.iinc 2 1, 3), (.ldc 4, 3)] (S' := (4, [(0, .inr (.inr (some (12, 0)))), (1, .inl x1), (2, .inl (x2 + (1 : Int32)))], [], zfR M)) (b := true) (by decide +kernel) rfl rfl ?_
  refine zGo_keep [0, 1, 2] rfl ?_
  exact hk4 x1 (x2 + (1 : Int32)) M h
def m12_goRound_218 (k4 : Int32 → Int32 → rM → Option (Int32 × rM)) (x2 : Int32) (t0 : Int32) (M : rM) : Option (Int32 × rM) := m12_goRound_219 k4 t0 x2 M
theorem m12_goRound_218_ok {X : zX} {G : zG} (Hy : zHy X G q12_goRound zcR 2 43 (some .boolean)) {r : Int32} {M' : rM} (hE : zEnd X G (some (.inl r)) (zfR M')) {k4 : Int32 → Int32 → rM → Option (Int32 × rM)} (hk4 : ∀ (x1 : Int32) (x2 : Int32) (M : rM), k4 x1 x2 M = some (r, M') → zGo (X, q12_goRound, G) 0 0 (4, [(0, .inr (.inr (some (12, 0)))), (1, .inl x1), (2, .inl x2)], [], zfR M)) (x2 : Int32) (t0 : Int32) (M : rM) (h : m12_goRound_218 k4 x2 t0 M = some (r, M')) : zGo (X, q12_goRound, G) 0 0 (218, [(0, .inr (.inr (some (12, 0)))), (2, .inl x2)], [.inl t0], zfR M) := by
  unfold m12_goRound_218 at h
  refine zblq Hy.1 Hy.2.1 [(.istore 1, 1)] (S' := (219, [(0, .inr (.inr (some (12, 0)))), (1, .inl t0), (2, .inl x2)], [], zfR M)) (b := true) (by decide +kernel) rfl rfl ?_
  refine zGo_keep [0, 1, 2] rfl ?_
  exact m12_goRound_219_ok Hy hE hk4 t0 x2 M h
def m12_goRound_171 (k4 : Int32 → Int32 → rM → Option (Int32 × rM)) (x1 : Int32) (x2 : Int32) (x3 : Int32) (t1 : Int32) (t2 : Int32) (M : rM) : Option (Int32 × rM) := zgd (zin t1 10 && (zin x2 10 && true)) ((if x1 = 0 then zgd (zin x2 10 && (zin x2 10 && true)) ((if (rg (rs (rs M 1310 0 (nx t1) t2) 1311 0 (nx x2) x3) 1310 0 (nx x2)) = (rg (rs (rs M 1310 0 (nx t1) t2) 1311 0 (nx x2) x3) 1308 0 (nx x2)) then zgd (zin x2 10 && (zin x2 10 && true)) ((if (rg (rs (rs M 1310 0 (nx t1) t2) 1311 0 (nx x2) x3) 1311 0 (nx x2)) = (rg (rs (rs M 1310 0 (nx t1) t2) 1311 0 (nx x2) x3) 1309 0 (nx x2)) then m12_goRound_218 k4 x2 (0 : Int32) (rs (rs M 1310 0 (nx t1) t2) 1311 0 (nx x2) x3) else m12_goRound_218 k4 x2 (1 : Int32) (rs (rs M 1310 0 (nx t1) t2) 1311 0 (nx x2) x3))) else m12_goRound_218 k4 x2 (1 : Int32) (rs (rs M 1310 0 (nx t1) t2) 1311 0 (nx x2) x3))) else m12_goRound_218 k4 x2 (1 : Int32) (rs (rs M 1310 0 (nx t1) t2) 1311 0 (nx x2) x3)))
theorem m12_goRound_171_ok {X : zX} {G : zG} (Hy : zHy X G q12_goRound zcR 2 43 (some .boolean)) {r : Int32} {M' : rM} (hE : zEnd X G (some (.inl r)) (zfR M')) {k4 : Int32 → Int32 → rM → Option (Int32 × rM)} (hk4 : ∀ (x1 : Int32) (x2 : Int32) (M : rM), k4 x1 x2 M = some (r, M') → zGo (X, q12_goRound, G) 0 0 (4, [(0, .inr (.inr (some (12, 0)))), (1, .inl x1), (2, .inl x2)], [], zfR M)) (x1 : Int32) (x2 : Int32) (x3 : Int32) (t1 : Int32) (t2 : Int32) (M : rM) (h : m12_goRound_171 k4 x1 x2 x3 t1 t2 M = some (r, M')) : zGo (X, q12_goRound, G) 0 0 (171, [(0, .inr (.inr (some (12, 0)))), (1, .inl x1), (2, .inl x2), (3, .inl x3)], [.inl t2, .inl t1, .inr (.inr (some (1310, 0)))], zfR M) := by
  unfold m12_goRound_171 at h
  obtain ⟨hg6, h⟩ := zgd_inv h
  refine zblq Hy.1 Hy.2.1 [(.iastore, 1), (.aload 0, 1), (.getfield 1211, 3), (.iload 2, 1), (.iload 3, 1), (.iastore, 1), (.iload 1, 1)] (S' := (180, [(0, .inr (.inr (some (12, 0)))), (1, .inl x1), (2, .inl x2), (3, .inl x3)], [.inl x1], zfR (rs (rs M 1310 0 (nx t1) t2) 1311 0 (nx x2) x3))) (b := zin t1 10 && (zin x2 10 && true)) (by decide +kernel) rfl hg6 ?_
  refine zif_ne Hy.1 (off := 33) (tgt := 213) (by decide +kernel) (by decide) (fun hb11 => ?_) (fun hb11 => ?_)
  · replace h := zite_f h hb11
    refine zblq Hy.1 Hy.2.1 [(.iconst 1, 1), (.ldc 218, 3)] (S' := (218, [(0, .inr (.inr (some (12, 0)))), (1, .inl x1), (2, .inl x2), (3, .inl x3)], [.inl (1 : Int32)], zfR (rs (rs M 1310 0 (nx t1) t2) 1311 0 (nx x2) x3))) (b := true) (by decide +kernel) rfl rfl ?_
    refine zGo_keep [0, 2] rfl ?_
    exact m12_goRound_218_ok Hy hE hk4 x2 (1 : Int32) (rs (rs M 1310 0 (nx t1) t2) 1311 0 (nx x2) x3) h
  · replace h := zite_t h hb11
    obtain ⟨hg7, h⟩ := zgd_inv h
    refine zblq Hy.1 Hy.2.1 [(.aload 0, 1), (.getfield 1210, 3), (.iload 2, 1), (.iaload, 1), (.aload 0, 1), (.getfield 1208, 3), (.iload 2, 1), (.iaload, 1)] (S' := (195, [(0, .inr (.inr (some (12, 0)))), (1, .inl x1), (2, .inl x2), (3, .inl x3)], [.inl (rg (rs (rs M 1310 0 (nx t1) t2) 1311 0 (nx x2) x3) 1308 0 (nx x2)), .inl (rg (rs (rs M 1310 0 (nx t1) t2) 1311 0 (nx x2) x3) 1310 0 (nx x2))], zfR (rs (rs M 1310 0 (nx t1) t2) 1311 0 (nx x2) x3))) (b := zin x2 10 && (zin x2 10 && true)) (by decide +kernel) rfl hg7 ?_
    refine zic_ne Hy.1 (off := 18) (tgt := 213) (by decide +kernel) (by decide) (fun hb10 => ?_) (fun hb10 => ?_)
    · replace h := zite_f h hb10
      refine zblq Hy.1 Hy.2.1 [(.iconst 1, 1), (.ldc 218, 3)] (S' := (218, [(0, .inr (.inr (some (12, 0)))), (1, .inl x1), (2, .inl x2), (3, .inl x3)], [.inl (1 : Int32)], zfR (rs (rs M 1310 0 (nx t1) t2) 1311 0 (nx x2) x3))) (b := true) (by decide +kernel) rfl rfl ?_
      refine zGo_keep [0, 2] rfl ?_
      exact m12_goRound_218_ok Hy hE hk4 x2 (1 : Int32) (rs (rs M 1310 0 (nx t1) t2) 1311 0 (nx x2) x3) h
    · replace h := zite_t h hb10
      obtain ⟨hg8, h⟩ := zgd_inv h
      refine zblq Hy.1 Hy.2.1 [(.aload 0, 1), (.getfield 1211, 3), (.iload 2, 1), (.iaload, 1), (.aload 0, 1), (.getfield 1209, 3), (.iload 2, 1), (.iaload, 1)] (S' := (210, [(0, .inr (.inr (some (12, 0)))), (1, .inl x1), (2, .inl x2), (3, .inl x3)], [.inl (rg (rs (rs M 1310 0 (nx t1) t2) 1311 0 (nx x2) x3) 1309 0 (nx x2)), .inl (rg (rs (rs M 1310 0 (nx t1) t2) 1311 0 (nx x2) x3) 1311 0 (nx x2))], zfR (rs (rs M 1310 0 (nx t1) t2) 1311 0 (nx x2) x3))) (b := zin x2 10 && (zin x2 10 && true)) (by decide +kernel) rfl hg8 ?_
      refine zic_eq Hy.1 (off := 7) (tgt := 217) (by decide +kernel) (by decide) (fun hb9 => ?_) (fun hb9 => ?_)
      · replace h := zite_t h hb9
        refine zblq Hy.1 Hy.2.1 [(.iconst 0, 1)] (S' := (218, [(0, .inr (.inr (some (12, 0)))), (1, .inl x1), (2, .inl x2), (3, .inl x3)], [.inl (0 : Int32)], zfR (rs (rs M 1310 0 (nx t1) t2) 1311 0 (nx x2) x3))) (b := true) (by decide +kernel) rfl rfl ?_
        refine zGo_keep [0, 2] rfl ?_
        exact m12_goRound_218_ok Hy hE hk4 x2 (0 : Int32) (rs (rs M 1310 0 (nx t1) t2) 1311 0 (nx x2) x3) h
      · replace h := zite_f h hb9
        refine zblq Hy.1 Hy.2.1 [(.iconst 1, 1), (.ldc 218, 3)] (S' := (218, [(0, .inr (.inr (some (12, 0)))), (1, .inl x1), (2, .inl x2), (3, .inl x3)], [.inl (1 : Int32)], zfR (rs (rs M 1310 0 (nx t1) t2) 1311 0 (nx x2) x3))) (b := true) (by decide +kernel) rfl rfl ?_
        refine zGo_keep [0, 2] rfl ?_
        exact m12_goRound_218_ok Hy hE hk4 x2 (1 : Int32) (rs (rs M 1310 0 (nx t1) t2) 1311 0 (nx x2) x3) h
def m12_goRound_143 (k4 : Int32 → Int32 → rM → Option (Int32 × rM)) (k50 : Int32 → Int32 → Int32 → Int32 → rM → Option (Int32 × rM)) (x1 : Int32) (x2 : Int32) (x4 : Int32) (t0 : Int32) (M : rM) : Option (Int32 × rM) := k50 x1 x2 t0 (x4 + (1 : Int32)) M
theorem m12_goRound_143_ok {X : zX} {G : zG} (Hy : zHy X G q12_goRound zcR 2 43 (some .boolean)) {r : Int32} {M' : rM} (hE : zEnd X G (some (.inl r)) (zfR M')) {k4 : Int32 → Int32 → rM → Option (Int32 × rM)} (hk4 : ∀ (x1 : Int32) (x2 : Int32) (M : rM), k4 x1 x2 M = some (r, M') → zGo (X, q12_goRound, G) 0 0 (4, [(0, .inr (.inr (some (12, 0)))), (1, .inl x1), (2, .inl x2)], [], zfR M)) {k50 : Int32 → Int32 → Int32 → Int32 → rM → Option (Int32 × rM)} (hk50 : ∀ (x1 : Int32) (x2 : Int32) (x3 : Int32) (x4 : Int32) (M : rM), k50 x1 x2 x3 x4 M = some (r, M') → zGo (X, q12_goRound, G) 0 0 (50, [(0, .inr (.inr (some (12, 0)))), (1, .inl x1), (2, .inl x2), (3, .inl x3), (4, .inl x4)], [], zfR M)) (x1 : Int32) (x2 : Int32) (x4 : Int32) (t0 : Int32) (M : rM) (h : m12_goRound_143 k4 k50 x1 x2 x4 t0 M = some (r, M')) : zGo (X, q12_goRound, G) 0 0 (143, [(0, .inr (.inr (some (12, 0)))), (1, .inl x1), (2, .inl x2), (4, .inl x4)], [.inl t0], zfR M) := by
  unfold m12_goRound_143 at h
  refine zblq Hy.1 Hy.2.1 [(.istore 3, 1), (.iinc 4 1, 3), (.ldc 50, 3)] (S' := (50, [(0, .inr (.inr (some (12, 0)))), (1, .inl x1), (2, .inl x2), (3, .inl t0), (4, .inl (x4 + (1 : Int32)))], [], zfR M)) (b := true) (by decide +kernel) rfl rfl ?_
  refine zGo_keep [0, 1, 2, 3, 4] rfl ?_
  exact hk50 x1 x2 t0 (x4 + (1 : Int32)) M h
def m12_goRound_111 (k4 : Int32 → Int32 → rM → Option (Int32 × rM)) (k50 : Int32 → Int32 → Int32 → Int32 → rM → Option (Int32 × rM)) (x1 : Int32) (x2 : Int32) (x3 : Int32) (x4 : Int32) (t0 : Int32) (M : rM) : Option (Int32 × rM) := (if t0 = 0 then m12_goRound_143 k4 k50 x1 x2 x4 x3 M else (if x3 = (-1 : Int32) then m12_goRound_143 k4 k50 x1 x2 x4 x4 M else zbd (m12_countOf x4 M) (fun r13 M13 => zbd (m12_countOf x3 M13) (fun r14 M14 => (if r14 ≤ r13 then m12_goRound_143 k4 k50 x1 x2 x4 x3 M14 else m12_goRound_143 k4 k50 x1 x2 x4 x4 M14)))))
theorem m12_goRound_111_ok {X : zX} {G : zG} (Hy : zHy X G q12_goRound zcR 2 43 (some .boolean)) {r : Int32} {M' : rM} (hE : zEnd X G (some (.inl r)) (zfR M')) {k4 : Int32 → Int32 → rM → Option (Int32 × rM)} (hk4 : ∀ (x1 : Int32) (x2 : Int32) (M : rM), k4 x1 x2 M = some (r, M') → zGo (X, q12_goRound, G) 0 0 (4, [(0, .inr (.inr (some (12, 0)))), (1, .inl x1), (2, .inl x2)], [], zfR M)) {k50 : Int32 → Int32 → Int32 → Int32 → rM → Option (Int32 × rM)} (hk50 : ∀ (x1 : Int32) (x2 : Int32) (x3 : Int32) (x4 : Int32) (M : rM), k50 x1 x2 x3 x4 M = some (r, M') → zGo (X, q12_goRound, G) 0 0 (50, [(0, .inr (.inr (some (12, 0)))), (1, .inl x1), (2, .inl x2), (3, .inl x3), (4, .inl x4)], [], zfR M)) (x1 : Int32) (x2 : Int32) (x3 : Int32) (x4 : Int32) (t0 : Int32) (M : rM) (h : m12_goRound_111 k4 k50 x1 x2 x3 x4 t0 M = some (r, M')) : zGo (X, q12_goRound, G) 0 0 (111, [(0, .inr (.inr (some (12, 0)))), (1, .inl x1), (2, .inl x2), (3, .inl x3), (4, .inl x4)], [.inl t0], zfR M) := by
  unfold m12_goRound_111 at h
  refine zblq Hy.1 Hy.2.1 [(.istore 5, 2), (.iload 5, 2)] (S' := (115, [(0, .inr (.inr (some (12, 0)))), (1, .inl x1), (2, .inl x2), (3, .inl x3), (4, .inl x4), (5, .inl t0)], [.inl t0], zfR M)) (b := true) (by decide +kernel) rfl rfl ?_
  refine zif_eq Hy.1 (off := 27) (tgt := 142) (by decide +kernel) (by decide) (fun hb17 => ?_) (fun hb17 => ?_)
  · replace h := zite_t h hb17
    refine zblq Hy.1 Hy.2.1 [(.iload 3, 1)] (S' := (143, [(0, .inr (.inr (some (12, 0)))), (1, .inl x1), (2, .inl x2), (3, .inl x3), (4, .inl x4), (5, .inl t0)], [.inl x3], zfR M)) (b := true) (by decide +kernel) rfl rfl ?_
    refine zGo_keep [0, 1, 2, 4] rfl ?_
    exact m12_goRound_143_ok Hy hE hk4 hk50 x1 x2 x4 x3 M h
  · replace h := zite_f h hb17
    refine zblq Hy.1 Hy.2.1 [(.iload 3, 1), (.iconst (-1), 1)] (S' := (120, [(0, .inr (.inr (some (12, 0)))), (1, .inl x1), (2, .inl x2), (3, .inl x3), (4, .inl x4), (5, .inl t0)], [.inl (-1 : Int32), .inl x3], zfR M)) (b := true) (by decide +kernel) rfl rfl ?_
    refine zic_eq Hy.1 (off := 17) (tgt := 137) (by decide +kernel) (by decide) (fun hb16 => ?_) (fun hb16 => ?_)
    · replace h := zite_t h hb16
      refine zblq Hy.1 Hy.2.1 [(.iload 4, 2), (.ldc 143, 3)] (S' := (143, [(0, .inr (.inr (some (12, 0)))), (1, .inl x1), (2, .inl x2), (3, .inl x3), (4, .inl x4), (5, .inl t0)], [.inl x4], zfR M)) (b := true) (by decide +kernel) rfl rfl ?_
      refine zGo_keep [0, 1, 2, 4] rfl ?_
      exact m12_goRound_143_ok Hy hE hk4 hk50 x1 x2 x4 x4 M h
    · replace h := zite_f h hb16
      refine zblq Hy.1 Hy.2.1 [(.aload 0, 1), (.iload 4, 2)] (S' := (126, [(0, .inr (.inr (some (12, 0)))), (1, .inl x1), (2, .inl x2), (3, .inl x3), (4, .inl x4), (5, .inl t0)], [.inl x4, .inr (.inr (some (12, 0)))], zfR M)) (b := true) (by decide +kernel) rfl rfl ?_
      obtain ⟨r13, M13, hc13, h⟩ := zbd_inv h
      refine zcallV Hy.1 (as := [.inl x4]) (st := []) (m12_countOf_met (zOK_G Hy.1) Hy.2.1 hc13) cw12_187 m12_countOf_in m12_countOf_se (by decide) (zhlv Hy.2.1 rfl) rfl (zroom Hy.2.2 ⟨by decide, by decide⟩) rfl (by decide +kernel) ⟨Nat.zero_le _, Nat.zero_le _⟩ ?_
      refine zblq Hy.1 Hy.2.1 [(.aload 0, 1), (.iload 3, 1)] (S' := (131, [(0, .inr (.inr (some (12, 0)))), (1, .inl x1), (2, .inl x2), (3, .inl x3), (4, .inl x4), (5, .inl t0)], [.inl x3, .inr (.inr (some (12, 0))), .inl r13], zfR M13)) (b := true) (by decide +kernel) rfl rfl ?_
      obtain ⟨r14, M14, hc14, h⟩ := zbd_inv h
      refine zcallV Hy.1 (as := [.inl x3]) (st := [.inl r13]) (m12_countOf_met (zOK_G Hy.1) Hy.2.1 hc14) cw12_187 m12_countOf_in m12_countOf_se (by decide) (zhlv Hy.2.1 rfl) rfl (zroom Hy.2.2 ⟨by decide, by decide⟩) rfl (by decide +kernel) ⟨Nat.zero_le _, Nat.zero_le _⟩ ?_
      refine zic_ge Hy.1 (off := 8) (tgt := 142) (by decide +kernel) (by decide) (fun hb15 => ?_) (fun hb15 => ?_)
      · replace h := zite_t h hb15
        refine zblq Hy.1 Hy.2.1 [(.iload 3, 1)] (S' := (143, [(0, .inr (.inr (some (12, 0)))), (1, .inl x1), (2, .inl x2), (3, .inl x3), (4, .inl x4), (5, .inl t0)], [.inl x3], zfR M14)) (b := true) (by decide +kernel) rfl rfl ?_
        refine zGo_keep [0, 1, 2, 4] rfl ?_
        exact m12_goRound_143_ok Hy hE hk4 hk50 x1 x2 x4 x3 M14 h
      · replace h := zite_f h hb15
        refine zblq Hy.1 Hy.2.1 [(.iload 4, 2), (.ldc 143, 3)] (S' := (143, [(0, .inr (.inr (some (12, 0)))), (1, .inl x1), (2, .inl x2), (3, .inl x3), (4, .inl x4), (5, .inl t0)], [.inl x4], zfR M14)) (b := true) (by decide +kernel) rfl rfl ?_
        refine zGo_keep [0, 1, 2, 4] rfl ?_
        exact m12_goRound_143_ok Hy hE hk4 hk50 x1 x2 x4 x4 M14 h
def m12_goRound_50 (k4 : Int32 → Int32 → rM → Option (Int32 × rM)) : Nat → Int32 → Int32 → Int32 → Int32 → rM → Option (Int32 × rM)
  | 0, _, _, _, _, _ => none
  | n + 1, x1, x2, x3, x4, M => (if (rg M 12 0 0) ≤ x4 then (if x3 = (-1 : Int32) then m12_goRound_171 k4 x1 x2 x3 x2 (-1 : Int32) M else zbd (m12_countOf x3 M) (fun r5 M5 => m12_goRound_171 k4 x1 x2 x3 x2 (r5 + (1 : Int32)) M5)) else (if x4 = x2 then m12_goRound_111 k4 (m12_goRound_50 k4 n) x1 x2 x3 x4 (0 : Int32) M else zgd (zin x4 10 && true) ((if (rg M 1302 0 (nx x4)) ≤ 0 then m12_goRound_111 k4 (m12_goRound_50 k4 n) x1 x2 x3 x4 (0 : Int32) M else zbd (m12_countOf x4 M) (fun r19 M19 => (if r19 = (-1 : Int32) then m12_goRound_111 k4 (m12_goRound_50 k4 n) x1 x2 x3 x4 (0 : Int32) M19 else zbd (m12_areMates x4 x2 M19) (fun r20 M20 => (if r20 = 0 then m12_goRound_111 k4 (m12_goRound_50 k4 n) x1 x2 x3 x4 (0 : Int32) M20 else zbd (m12_countOf x4 M20) (fun r21 M21 => (if (9 : Int32) ≤ r21 then m12_goRound_111 k4 (m12_goRound_50 k4 n) x1 x2 x3 x4 (0 : Int32) M21 else m12_goRound_111 k4 (m12_goRound_50 k4 n) x1 x2 x3 x4 (1 : Int32) M21))))))))))
theorem m12_goRound_50_ok {X : zX} {G : zG} (Hy : zHy X G q12_goRound zcR 2 43 (some .boolean)) {r : Int32} {M' : rM} (hE : zEnd X G (some (.inl r)) (zfR M')) {k4 : Int32 → Int32 → rM → Option (Int32 × rM)} (hk4 : ∀ (x1 : Int32) (x2 : Int32) (M : rM), k4 x1 x2 M = some (r, M') → zGo (X, q12_goRound, G) 0 0 (4, [(0, .inr (.inr (some (12, 0)))), (1, .inl x1), (2, .inl x2)], [], zfR M)) : ∀ (n : Nat) (x1 : Int32) (x2 : Int32) (x3 : Int32) (x4 : Int32) (M : rM), m12_goRound_50 k4 n x1 x2 x3 x4 M = some (r, M') → zGo (X, q12_goRound, G) 0 0 (50, [(0, .inr (.inr (some (12, 0)))), (1, .inl x1), (2, .inl x2), (3, .inl x3), (4, .inl x4)], [], zfR M) := by
  intro n
  induction n with
  | zero => intro x1 x2 x3 x4 M h; cases h
  | succ n ih =>
    intro x1 x2 x3 x4 M h
    unfold m12_goRound_50 at h
    refine zblq Hy.1 Hy.2.1 [(.iload 4, 2), (.aload 0, 1), (.multianewarray 12 0, 3)] (S' := (56, [(0, .inr (.inr (some (12, 0)))), (1, .inl x1), (2, .inl x2), (3, .inl x3), (4, .inl x4)], [.inl (rg M 12 0 0), .inl x4], zfR M)) (b := true) (by decide +kernel) rfl rfl ?_
    refine zic_ge Hy.1 (off := 94) (tgt := 150) (by decide +kernel) (by decide) (fun hb27 => ?_) (fun hb27 => ?_)
    · replace h := zite_t h hb27
      refine zblq Hy.1 Hy.2.1 [(.aload 0, 1), (.getfield 1210, 3), (.iload 2, 1), (.iload 3, 1), (.iconst (-1), 1)] (S' := (157, [(0, .inr (.inr (some (12, 0)))), (1, .inl x1), (2, .inl x2), (3, .inl x3), (4, .inl x4)], [.inl (-1 : Int32), .inl x3, .inl x2, .inr (.inr (some (1310, 0)))], zfR M)) (b := true) (by decide +kernel) rfl rfl ?_
      refine zic_ne Hy.1 (off := 7) (tgt := 164) (by decide +kernel) (by decide) (fun hb12 => ?_) (fun hb12 => ?_)
      · replace h := zite_f h hb12
        refine zblq Hy.1 Hy.2.1 [(.aload 0, 1), (.iload 3, 1)] (S' := (166, [(0, .inr (.inr (some (12, 0)))), (1, .inl x1), (2, .inl x2), (3, .inl x3), (4, .inl x4)], [.inl x3, .inr (.inr (some (12, 0))), .inl x2, .inr (.inr (some (1310, 0)))], zfR M)) (b := true) (by decide +kernel) rfl rfl ?_
        obtain ⟨r5, M5, hc5, h⟩ := zbd_inv h
        refine zcallV Hy.1 (as := [.inl x3]) (st := [.inl x2, .inr (.inr (some (1310, 0)))]) (m12_countOf_met (zOK_G Hy.1) Hy.2.1 hc5) cw12_187 m12_countOf_in m12_countOf_se (by decide) (zhlv Hy.2.1 rfl) rfl (zroom Hy.2.2 ⟨by decide, by decide⟩) rfl (by decide +kernel) ⟨Nat.zero_le _, Nat.zero_le _⟩ ?_
        refine zblq Hy.1 Hy.2.1 [(.iconst 1, 1), (.iadd, 1)] (S' := (171, [(0, .inr (.inr (some (12, 0)))), (1, .inl x1), (2, .inl x2), (3, .inl x3), (4, .inl x4)], [.inl (r5 + (1 : Int32)), .inl x2, .inr (.inr (some (1310, 0)))], zfR M5)) (b := true) (by decide +kernel) rfl rfl ?_
        refine zGo_keep [0, 1, 2, 3] rfl ?_
        exact m12_goRound_171_ok Hy hE hk4 x1 x2 x3 x2 (r5 + (1 : Int32)) M5 h
      · replace h := zite_t h hb12
        refine zblq Hy.1 Hy.2.1 [(.iconst (-1), 1), (.ldc 171, 3)] (S' := (171, [(0, .inr (.inr (some (12, 0)))), (1, .inl x1), (2, .inl x2), (3, .inl x3), (4, .inl x4)], [.inl (-1 : Int32), .inl x2, .inr (.inr (some (1310, 0)))], zfR M)) (b := true) (by decide +kernel) rfl rfl ?_
        refine zGo_keep [0, 1, 2, 3] rfl ?_
        exact m12_goRound_171_ok Hy hE hk4 x1 x2 x3 x2 (-1 : Int32) M h
    · replace h := zite_f h hb27
      refine zblq Hy.1 Hy.2.1 [(.iload 4, 2), (.iload 2, 1)] (S' := (62, [(0, .inr (.inr (some (12, 0)))), (1, .inl x1), (2, .inl x2), (3, .inl x3), (4, .inl x4)], [.inl x2, .inl x4], zfR M)) (b := true) (by decide +kernel) rfl rfl ?_
      refine zic_eq Hy.1 (off := 48) (tgt := 110) (by decide +kernel) (by decide) (fun hb26 => ?_) (fun hb26 => ?_)
      · replace h := zite_t h hb26
        refine zblq Hy.1 Hy.2.1 [(.iconst 0, 1)] (S' := (111, [(0, .inr (.inr (some (12, 0)))), (1, .inl x1), (2, .inl x2), (3, .inl x3), (4, .inl x4)], [.inl (0 : Int32)], zfR M)) (b := true) (by decide +kernel) rfl rfl ?_
        refine zGo_keep [0, 1, 2, 3, 4] rfl ?_
        exact m12_goRound_111_ok Hy hE hk4 ih x1 x2 x3 x4 (0 : Int32) M h
      · replace h := zite_f h hb26
        obtain ⟨hg18, h⟩ := zgd_inv h
        refine zblq Hy.1 Hy.2.1 [(.aload 0, 1), (.getfield 1202, 3), (.iload 4, 2), (.iaload, 1)] (S' := (72, [(0, .inr (.inr (some (12, 0)))), (1, .inl x1), (2, .inl x2), (3, .inl x3), (4, .inl x4)], [.inl (rg M 1302 0 (nx x4))], zfR M)) (b := zin x4 10 && true) (by decide +kernel) rfl hg18 ?_
        refine zif_le Hy.1 (off := 38) (tgt := 110) (by decide +kernel) (by decide) (fun hb25 => ?_) (fun hb25 => ?_)
        · replace h := zite_t h hb25
          refine zblq Hy.1 Hy.2.1 [(.iconst 0, 1)] (S' := (111, [(0, .inr (.inr (some (12, 0)))), (1, .inl x1), (2, .inl x2), (3, .inl x3), (4, .inl x4)], [.inl (0 : Int32)], zfR M)) (b := true) (by decide +kernel) rfl rfl ?_
          refine zGo_keep [0, 1, 2, 3, 4] rfl ?_
          exact m12_goRound_111_ok Hy hE hk4 ih x1 x2 x3 x4 (0 : Int32) M h
        · replace h := zite_f h hb25
          refine zblq Hy.1 Hy.2.1 [(.aload 0, 1), (.iload 4, 2)] (S' := (78, [(0, .inr (.inr (some (12, 0)))), (1, .inl x1), (2, .inl x2), (3, .inl x3), (4, .inl x4)], [.inl x4, .inr (.inr (some (12, 0)))], zfR M)) (b := true) (by decide +kernel) rfl rfl ?_
          obtain ⟨r19, M19, hc19, h⟩ := zbd_inv h
          refine zcallV Hy.1 (as := [.inl x4]) (st := []) (m12_countOf_met (zOK_G Hy.1) Hy.2.1 hc19) cw12_187 m12_countOf_in m12_countOf_se (by decide) (zhlv Hy.2.1 rfl) rfl (zroom Hy.2.2 ⟨by decide, by decide⟩) rfl (by decide +kernel) ⟨Nat.zero_le _, Nat.zero_le _⟩ ?_
          refine zblq Hy.1 Hy.2.1 [(.iconst (-1), 1)] (S' := (82, [(0, .inr (.inr (some (12, 0)))), (1, .inl x1), (2, .inl x2), (3, .inl x3), (4, .inl x4)], [.inl (-1 : Int32), .inl r19], zfR M19)) (b := true) (by decide +kernel) rfl rfl ?_
          refine zic_eq Hy.1 (off := 28) (tgt := 110) (by decide +kernel) (by decide) (fun hb24 => ?_) (fun hb24 => ?_)
          · replace h := zite_t h hb24
            refine zblq Hy.1 Hy.2.1 [(.iconst 0, 1)] (S' := (111, [(0, .inr (.inr (some (12, 0)))), (1, .inl x1), (2, .inl x2), (3, .inl x3), (4, .inl x4)], [.inl (0 : Int32)], zfR M19)) (b := true) (by decide +kernel) rfl rfl ?_
            refine zGo_keep [0, 1, 2, 3, 4] rfl ?_
            exact m12_goRound_111_ok Hy hE hk4 ih x1 x2 x3 x4 (0 : Int32) M19 h
          · replace h := zite_f h hb24
            refine zblq Hy.1 Hy.2.1 [(.aload 0, 1), (.iload 4, 2), (.iload 2, 1)] (S' := (89, [(0, .inr (.inr (some (12, 0)))), (1, .inl x1), (2, .inl x2), (3, .inl x3), (4, .inl x4)], [.inl x2, .inl x4, .inr (.inr (some (12, 0)))], zfR M19)) (b := true) (by decide +kernel) rfl rfl ?_
            obtain ⟨r20, M20, hc20, h⟩ := zbd_inv h
            refine zcallV Hy.1 (as := [.inl x4, .inl x2]) (st := []) (m12_areMates_met (zOK_G Hy.1) Hy.2.1 hc20) cw12_197 m12_areMates_in m12_areMates_se (by decide) (zhlv Hy.2.1 rfl) rfl (zroom Hy.2.2 ⟨by decide, by decide⟩) rfl (by decide +kernel) ⟨Nat.zero_le _, Nat.zero_le _⟩ ?_
            refine zif_eq Hy.1 (off := 18) (tgt := 110) (by decide +kernel) (by decide) (fun hb23 => ?_) (fun hb23 => ?_)
            · replace h := zite_t h hb23
              refine zblq Hy.1 Hy.2.1 [(.iconst 0, 1)] (S' := (111, [(0, .inr (.inr (some (12, 0)))), (1, .inl x1), (2, .inl x2), (3, .inl x3), (4, .inl x4)], [.inl (0 : Int32)], zfR M20)) (b := true) (by decide +kernel) rfl rfl ?_
              refine zGo_keep [0, 1, 2, 3, 4] rfl ?_
              exact m12_goRound_111_ok Hy hE hk4 ih x1 x2 x3 x4 (0 : Int32) M20 h
            · replace h := zite_f h hb23
              refine zblq Hy.1 Hy.2.1 [(.aload 0, 1), (.iload 4, 2)] (S' := (98, [(0, .inr (.inr (some (12, 0)))), (1, .inl x1), (2, .inl x2), (3, .inl x3), (4, .inl x4)], [.inl x4, .inr (.inr (some (12, 0)))], zfR M20)) (b := true) (by decide +kernel) rfl rfl ?_
              obtain ⟨r21, M21, hc21, h⟩ := zbd_inv h
              refine zcallV Hy.1 (as := [.inl x4]) (st := []) (m12_countOf_met (zOK_G Hy.1) Hy.2.1 hc21) cw12_187 m12_countOf_in m12_countOf_se (by decide) (zhlv Hy.2.1 rfl) rfl (zroom Hy.2.2 ⟨by decide, by decide⟩) rfl (by decide +kernel) ⟨Nat.zero_le _, Nat.zero_le _⟩ ?_
              refine zblq Hy.1 Hy.2.1 [(.iconst 9, 2)] (S' := (103, [(0, .inr (.inr (some (12, 0)))), (1, .inl x1), (2, .inl x2), (3, .inl x3), (4, .inl x4)], [.inl (9 : Int32), .inl r21], zfR M21)) (b := true) (by decide +kernel) rfl rfl ?_
              refine zic_ge Hy.1 (off := 7) (tgt := 110) (by decide +kernel) (by decide) (fun hb22 => ?_) (fun hb22 => ?_)
              · replace h := zite_t h hb22
                refine zblq Hy.1 Hy.2.1 [(.iconst 0, 1)] (S' := (111, [(0, .inr (.inr (some (12, 0)))), (1, .inl x1), (2, .inl x2), (3, .inl x3), (4, .inl x4)], [.inl (0 : Int32)], zfR M21)) (b := true) (by decide +kernel) rfl rfl ?_
                refine zGo_keep [0, 1, 2, 3, 4] rfl ?_
                exact m12_goRound_111_ok Hy hE hk4 ih x1 x2 x3 x4 (0 : Int32) M21 h
              · replace h := zite_f h hb22
                refine zblq Hy.1 Hy.2.1 [(.iconst 1, 1), (.ldc 111, 3)] (S' := (111, [(0, .inr (.inr (some (12, 0)))), (1, .inl x1), (2, .inl x2), (3, .inl x3), (4, .inl x4)], [.inl (1 : Int32)], zfR M21)) (b := true) (by decide +kernel) rfl rfl ?_
                refine zGo_keep [0, 1, 2, 3, 4] rfl ?_
                exact m12_goRound_111_ok Hy hE hk4 ih x1 x2 x3 x4 (1 : Int32) M21 h
def m12_goRound_4 : Nat → Int32 → Int32 → rM → Option (Int32 × rM)
  | 0, _, _, _ => none
  | n + 1, x1, x2, M => (if (rg M 12 0 0) ≤ x2 then m12_goRound_227 zfu x1 (1 : Int32) M else zgd (zin x2 10 && (zin x2 10 && (zin x2 10 && (zin x2 10 && (zin x2 10 && true))))) ((if (rg (rs (rs M 1310 0 (nx x2) (rg M 1308 0 (nx x2))) 1311 0 (nx x2) (rg (rs M 1310 0 (nx x2) (rg M 1308 0 (nx x2))) 1309 0 (nx x2))) 1302 0 (nx x2)) ≤ 0 then m12_goRound_219 (m12_goRound_4 n) x1 x2 (rs (rs M 1310 0 (nx x2) (rg M 1308 0 (nx x2))) 1311 0 (nx x2) (rg (rs M 1310 0 (nx x2) (rg M 1308 0 (nx x2))) 1309 0 (nx x2))) else m12_goRound_50 (m12_goRound_4 n) zfu x1 x2 (-1 : Int32) (0 : Int32) (rs (rs M 1310 0 (nx x2) (rg M 1308 0 (nx x2))) 1311 0 (nx x2) (rg (rs M 1310 0 (nx x2) (rg M 1308 0 (nx x2))) 1309 0 (nx x2))))))
theorem m12_goRound_4_ok {X : zX} {G : zG} (Hy : zHy X G q12_goRound zcR 2 43 (some .boolean)) {r : Int32} {M' : rM} (hE : zEnd X G (some (.inl r)) (zfR M')) : ∀ (n : Nat) (x1 : Int32) (x2 : Int32) (M : rM), m12_goRound_4 n x1 x2 M = some (r, M') → zGo (X, q12_goRound, G) 0 0 (4, [(0, .inr (.inr (some (12, 0)))), (1, .inl x1), (2, .inl x2)], [], zfR M) := by
  intro n
  induction n with
  | zero => intro x1 x2 M h; cases h
  | succ n ih =>
    intro x1 x2 M h
    unfold m12_goRound_4 at h
    refine zblq Hy.1 Hy.2.1 [(.iload 2, 1), (.aload 0, 1), (.multianewarray 12 0, 3)] (S' := (9, [(0, .inr (.inr (some (12, 0)))), (1, .inl x1), (2, .inl x2)], [.inl (rg M 12 0 0), .inl x2], zfR M)) (b := true) (by decide +kernel) rfl rfl ?_
    refine zic_ge Hy.1 (off := 216) (tgt := 225) (by decide +kernel) (by decide) (fun hb29 => ?_) (fun hb29 => ?_)
    · replace h := zite_t h hb29
      refine zblq Hy.1 Hy.2.1 [(.iconst 1, 1), (.istore 2, 1)] (S' := (227, [(0, .inr (.inr (some (12, 0)))), (1, .inl x1), (2, .inl (1 : Int32))], [], zfR M)) (b := true) (by decide +kernel) rfl rfl ?_
      refine zGo_keep [0, 1, 2] rfl ?_
      exact m12_goRound_227_ok Hy hE zfu x1 (1 : Int32) M h
    · replace h := zite_f h hb29
      obtain ⟨hg4, h⟩ := zgd_inv h
      refine zblq Hy.1 Hy.2.1 [(.aload 0, 1), (.getfield 1210, 3), (.iload 2, 1), (.aload 0, 1), (.getfield 1208, 3), (.iload 2, 1), (.iaload, 1), (.iastore, 1), (.aload 0, 1), (.getfield 1211, 3), (.iload 2, 1), (.aload 0, 1), (.getfield 1209, 3), (.iload 2, 1), (.iaload, 1), (.iastore, 1), (.aload 0, 1), (.getfield 1202, 3), (.iload 2, 1), (.iaload, 1)] (S' := (42, [(0, .inr (.inr (some (12, 0)))), (1, .inl x1), (2, .inl x2)], [.inl (rg (rs (rs M 1310 0 (nx x2) (rg M 1308 0 (nx x2))) 1311 0 (nx x2) (rg (rs M 1310 0 (nx x2) (rg M 1308 0 (nx x2))) 1309 0 (nx x2))) 1302 0 (nx x2))], zfR (rs (rs M 1310 0 (nx x2) (rg M 1308 0 (nx x2))) 1311 0 (nx x2) (rg (rs M 1310 0 (nx x2) (rg M 1308 0 (nx x2))) 1309 0 (nx x2))))) (b := zin x2 10 && (zin x2 10 && (zin x2 10 && (zin x2 10 && (zin x2 10 && true))))) (by decide +kernel) rfl hg4 ?_
      refine zif_le Hy.1 (off := 177) (tgt := 219) (by decide +kernel) (by decide) (fun hb28 => ?_) (fun hb28 => ?_)
      · replace h := zite_t h hb28
        refine zGo_keep [0, 1, 2] rfl ?_
        exact m12_goRound_219_ok Hy hE ih x1 x2 (rs (rs M 1310 0 (nx x2) (rg M 1308 0 (nx x2))) 1311 0 (nx x2) (rg (rs M 1310 0 (nx x2) (rg M 1308 0 (nx x2))) 1309 0 (nx x2))) h
      · replace h := zite_f h hb28
        refine zblq Hy.1 Hy.2.1 [(.iconst (-1), 1), (.istore 3, 1), (.iconst 0, 1), (.istore 4, 2)] (S' := (50, [(0, .inr (.inr (some (12, 0)))), (1, .inl x1), (2, .inl x2), (3, .inl (-1 : Int32)), (4, .inl (0 : Int32))], [], zfR (rs (rs M 1310 0 (nx x2) (rg M 1308 0 (nx x2))) 1311 0 (nx x2) (rg (rs M 1310 0 (nx x2) (rg M 1308 0 (nx x2))) 1309 0 (nx x2))))) (b := true) (by decide +kernel) rfl rfl ?_
        refine zGo_keep [0, 1, 2, 3, 4] rfl ?_
        exact m12_goRound_50_ok Hy hE ih zfu x1 x2 (-1 : Int32) (0 : Int32) (rs (rs M 1310 0 (nx x2) (rg M 1308 0 (nx x2))) 1311 0 (nx x2) (rg (rs M 1310 0 (nx x2) (rg M 1308 0 (nx x2))) 1309 0 (nx x2))) h
def m12_goRound  (M : rM) : Option (Int32 × rM) := m12_goRound_4 zfu (0 : Int32) (1 : Int32) M
theorem m12_goRound_ok {X : zX} {G : zG} (Hy : zHy X G q12_goRound zcR 2 43 (some .boolean)) {r : Int32} {M' : rM} (hE : zEnd X G (some (.inl r)) (zfR M'))  (M : rM) (h : m12_goRound M = some (r, M')) : zGo (X, q12_goRound, G) 0 0 (0, [(0, .inr (.inr (some (12, 0))))], [], zfR M) := by
  unfold m12_goRound at h
  refine zblq Hy.1 Hy.2.1 [(.iconst 0, 1), (.istore 1, 1), (.iconst 1, 1), (.istore 2, 1)] (S' := (4, [(0, .inr (.inr (some (12, 0)))), (1, .inl (0 : Int32)), (2, .inl (1 : Int32))], [], zfR M)) (b := true) (by decide +kernel) rfl rfl ?_
  refine zGo_keep [0, 1, 2] rfl ?_
  exact m12_goRound_4_ok Hy hE zfu (0 : Int32) (1 : Int32) M h
theorem m12_goRound_met {l : Launch} {G : zG} (hG : zGok G) (hcn : zgcn G = zcR)  {M : rM} {r : Int32} {M' : rM} (h : m12_goRound M = some (r, M')) : zMet l G yX12_goRound cX12_goRound 6 (some .boolean) 2 43 [.inr (.inr (some (12, 0)))] (zfR M) (some (.inl r)) (zfR M') :=
  zMet_of hG tbX12_ok rfl (by decide +kernel) (Nat.le_of_ble_eq_true rfl) (fun X _ Z hA hE => m12_goRound_ok ⟨Z, hcn, hA⟩ hE M h)
abbrev q12_rounds : ByteArray × Nat × String × zT := (cX12_rounds, 4, RX12, tbX12)
def m12_rounds_35 (k17 : Int32 → Int32 → Int32 → rM → Option (Int32 × rM)) (x1 : Int32) (x3 : Int32) (t0 : Int32) (t1 : Int32) (M : rM) : Option (Int32 × rM) := k17 x1 (t0 + t1) (x3 + (1 : Int32)) M
theorem m12_rounds_35_ok {X : zX} {G : zG} (Hy : zHy X G q12_rounds zcR 3 68 (some .int)) {r : Int32} {M' : rM} (hE : zEnd X G (some (.inl r)) (zfR M')) {k17 : Int32 → Int32 → Int32 → rM → Option (Int32 × rM)} (hk17 : ∀ (x1 : Int32) (x2 : Int32) (x3 : Int32) (M : rM), k17 x1 x2 x3 M = some (r, M') → zGo (X, q12_rounds, G) 0 0 (17, [(0, .inr (.inr (some (12, 0)))), (1, .inl x1), (2, .inl x2), (3, .inl x3)], [], zfR M)) (x1 : Int32) (x3 : Int32) (t0 : Int32) (t1 : Int32) (M : rM) (h : m12_rounds_35 k17 x1 x3 t0 t1 M = some (r, M')) : zGo (X, q12_rounds, G) 0 0 (35, [(0, .inr (.inr (some (12, 0)))), (1, .inl x1), (3, .inl x3)], [.inl t1, .inl t0], zfR M) := by
  unfold m12_rounds_35 at h
  refine zblq Hy.1 Hy.2.1 [(.iadd, 1), (.istore 2, 1), (.iinc 3 1, 3), (.ldc 17, 3)] (S' := (17, [(0, .inr (.inr (some (12, 0)))), (1, .inl x1), (2, .inl (t0 + t1)), (3, .inl (x3 + (1 : Int32)))], [], zfR M)) (b := true) (by decide +kernel) rfl rfl ?_
  refine zGo_keep [0, 1, 2, 3] rfl ?_
  exact hk17 x1 (t0 + t1) (x3 + (1 : Int32)) M h
def m12_rounds_17 : Nat → Int32 → Int32 → Int32 → rM → Option (Int32 × rM)
  | 0, _, _, _, _ => none
  | n + 1, x1, x2, x3, M => (if x1 ≤ x3 then some (x2, M) else zbd (m12_goRound M) (fun r2 M2 => (if r2 = 0 then m12_rounds_35 (m12_rounds_17 n) x1 x3 x2 (0 : Int32) M2 else m12_rounds_35 (m12_rounds_17 n) x1 x3 x2 (1 : Int32) M2)))
theorem m12_rounds_17_ok {X : zX} {G : zG} (Hy : zHy X G q12_rounds zcR 3 68 (some .int)) {r : Int32} {M' : rM} (hE : zEnd X G (some (.inl r)) (zfR M')) : ∀ (n : Nat) (x1 : Int32) (x2 : Int32) (x3 : Int32) (M : rM), m12_rounds_17 n x1 x2 x3 M = some (r, M') → zGo (X, q12_rounds, G) 0 0 (17, [(0, .inr (.inr (some (12, 0)))), (1, .inl x1), (2, .inl x2), (3, .inl x3)], [], zfR M) := by
  intro n
  induction n with
  | zero => intro x1 x2 x3 M h; cases h
  | succ n ih =>
    intro x1 x2 x3 M h
    unfold m12_rounds_17 at h
    refine zblq Hy.1 Hy.2.1 [(.iload 3, 1), (.iload 1, 1)] (S' := (19, [(0, .inr (.inr (some (12, 0)))), (1, .inl x1), (2, .inl x2), (3, .inl x3)], [.inl x1, .inl x3], zfR M)) (b := true) (by decide +kernel) rfl rfl ?_
    refine zic_ge Hy.1 (off := 24) (tgt := 43) (by decide +kernel) (by decide) (fun hb4 => ?_) (fun hb4 => ?_)
    · replace h := zite_t h hb4
      refine zblq Hy.1 Hy.2.1 [(.iload 2, 1)] (S' := (44, [(0, .inr (.inr (some (12, 0)))), (1, .inl x1), (2, .inl x2), (3, .inl x3)], [.inl x2], zfR M)) (b := true) (by decide +kernel) rfl rfl ?_
      cases h
      exact zret_i Hy.1 Hy.2.2 hE (by decide +kernel)
    · replace h := zite_f h hb4
      refine zblq Hy.1 Hy.2.1 [(.iload 2, 1), (.aload 0, 1)] (S' := (24, [(0, .inr (.inr (some (12, 0)))), (1, .inl x1), (2, .inl x2), (3, .inl x3)], [.inr (.inr (some (12, 0))), .inl x2], zfR M)) (b := true) (by decide +kernel) rfl rfl ?_
      obtain ⟨r2, M2, hc2, h⟩ := zbd_inv h
      refine zcallV Hy.1 (as := []) (st := [.inl x2]) (m12_goRound_met (zOK_G Hy.1) Hy.2.1 hc2) cw12_200 m12_goRound_in m12_goRound_se (by decide) (zhlv Hy.2.1 rfl) rfl (zroom Hy.2.2 ⟨by decide, by decide⟩) rfl (by decide +kernel) ⟨Nat.zero_le _, Nat.zero_le _⟩ ?_
      refine zif_eq Hy.1 (off := 7) (tgt := 34) (by decide +kernel) (by decide) (fun hb3 => ?_) (fun hb3 => ?_)
      · replace h := zite_t h hb3
        refine zblq Hy.1 Hy.2.1 [(.iconst 0, 1)] (S' := (35, [(0, .inr (.inr (some (12, 0)))), (1, .inl x1), (2, .inl x2), (3, .inl x3)], [.inl (0 : Int32), .inl x2], zfR M2)) (b := true) (by decide +kernel) rfl rfl ?_
        refine zGo_keep [0, 1, 3] rfl ?_
        exact m12_rounds_35_ok Hy hE ih x1 x3 x2 (0 : Int32) M2 h
      · replace h := zite_f h hb3
        refine zblq Hy.1 Hy.2.1 [(.iconst 1, 1), (.ldc 35, 3)] (S' := (35, [(0, .inr (.inr (some (12, 0)))), (1, .inl x1), (2, .inl x2), (3, .inl x3)], [.inl (1 : Int32), .inl x2], zfR M2)) (b := true) (by decide +kernel) rfl rfl ?_
        refine zGo_keep [0, 1, 3] rfl ?_
        exact m12_rounds_35_ok Hy hE ih x1 x3 x2 (1 : Int32) M2 h
def m12_rounds (x1 : Int32) (M : rM) : Option (Int32 × rM) := zbd (m12_in x1 (1 : Int32) (20 : Int32) M) (fun r1 M1 => (if r1 = 0 then some ((-3 : Int32), M1) else m12_rounds_17 zfu x1 (0 : Int32) (0 : Int32) M1))
theorem m12_rounds_ok {X : zX} {G : zG} (Hy : zHy X G q12_rounds zcR 3 68 (some .int)) {r : Int32} {M' : rM} (hE : zEnd X G (some (.inl r)) (zfR M')) (x1 : Int32) (M : rM) (h : m12_rounds x1 M = some (r, M')) : zGo (X, q12_rounds, G) 0 0 (0, [(0, .inr (.inr (some (12, 0)))), (1, .inl x1)], [], zfR M) := by
  unfold m12_rounds at h
  refine zblq Hy.1 Hy.2.1 [(.iload 1, 1), (.iconst 1, 1), (.iconst 20, 2)] (S' := (4, [(0, .inr (.inr (some (12, 0)))), (1, .inl x1)], [.inl (20 : Int32), .inl (1 : Int32), .inl x1], zfR M)) (b := true) (by decide +kernel) rfl rfl ?_
  obtain ⟨r1, M1, hc1, h⟩ := zbd_inv h
  refine zcallS Hy.1 (as := [.inl x1, .inl (1 : Int32), .inl (20 : Int32)]) (st := []) (m12_in_met (zOK_G Hy.1) Hy.2.1 hc1) cw12_171 m12_in_in rfl (zroom Hy.2.2 ⟨by decide, by decide⟩) rfl (by decide +kernel) ⟨Nat.zero_le _, Nat.zero_le _⟩ ?_
  refine zif_ne Hy.1 (off := 6) (tgt := 13) (by decide +kernel) (by decide) (fun hb5 => ?_) (fun hb5 => ?_)
  · replace h := zite_f h hb5
    refine zblq Hy.1 Hy.2.1 [(.iconst 0, 1), (.istore 2, 1), (.iconst 0, 1), (.istore 3, 1)] (S' := (17, [(0, .inr (.inr (some (12, 0)))), (1, .inl x1), (2, .inl (0 : Int32)), (3, .inl (0 : Int32))], [], zfR M1)) (b := true) (by decide +kernel) rfl rfl ?_
    refine zGo_keep [0, 1, 2, 3] rfl ?_
    exact m12_rounds_17_ok Hy hE zfu x1 (0 : Int32) (0 : Int32) M1 h
  · replace h := zite_t h hb5
    refine zblq Hy.1 Hy.2.1 [(.iconst (-3), 2)] (S' := (12, [(0, .inr (.inr (some (12, 0)))), (1, .inl x1)], [.inl (-3 : Int32)], zfR M1)) (b := true) (by decide +kernel) rfl rfl ?_
    cases h
    exact zret_i Hy.1 Hy.2.2 hE (by decide +kernel)
theorem m12_rounds_met {l : Launch} {G : zG} (hG : zGok G) (hcn : zgcn G = zcR) {x1 : Int32} {M : rM} {r : Int32} {M' : rM} (h : m12_rounds x1 M = some (r, M')) : zMet l G yX12_rounds cX12_rounds 4 (some .int) 3 68 [.inr (.inr (some (12, 0))), .inl x1] (zfR M) (some (.inl r)) (zfR M') :=
  zMet_of hG tbX12_ok rfl (by decide +kernel) (Nat.le_of_ble_eq_true rfl) (fun X _ Z hA hE => m12_rounds_ok ⟨Z, hcn, hA⟩ hE x1 M h)
