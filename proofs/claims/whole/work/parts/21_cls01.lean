abbrev q11_outside : ByteArray × Nat × String × zT := (cX11_outside, 3, RX11, tbX11)
def m11_outside (x0 : Int32) (x1 : Int32) (x2 : Int32) (M : cM) : Option (Int32 × cM) := (if x0 < x1 then some ((1 : Int32), M) else (if x0 ≤ x2 then some ((0 : Int32), M) else some ((1 : Int32), M)))
theorem m11_outside_ok {X : zX} {G : zG} (Hy : zHy X G q11_outside zcC 0 0 (some .boolean)) {r : Int32} {M' : cM} (hE : zEnd X G (some (.inl r)) (zfC M')) (x0 : Int32) (x1 : Int32) (x2 : Int32) (M : cM) (h : m11_outside x0 x1 x2 M = some (r, M')) : zGo (X, q11_outside, G) 0 0 (0, [(0, .inl x0), (1, .inl x1), (2, .inl x2)], [], zfC M) := by
  unfold m11_outside at h
  refine zblq Hy.1 Hy.2.1 [(.iload 0, 1), (.iload 1, 1)] (S' := (2, [(0, .inl x0), (1, .inl x1), (2, .inl x2)], [.inl x1, .inl x0], zfC M)) (b := true) (by decide +kernel) rfl rfl ?_
  refine zic_lt Hy.1 (off := 8) (tgt := 10) (by decide +kernel) (by decide) (fun hb2 => ?_) (fun hb2 => ?_)
  · replace h := zite_t h hb2
    refine zblq Hy.1 Hy.2.1 [(.iconst 1, 1), (.ldc 15, 3)] (S' := (15, [(0, .inl x0), (1, .inl x1), (2, .inl x2)], [.inl (1 : Int32)], zfC M)) (b := true) (by decide +kernel) rfl rfl ?_
    cases h
    exact zret_z Hy.1 Hy.2.2 (by decide) hE (by decide +kernel)
  · replace h := zite_f h hb2
    refine zblq Hy.1 Hy.2.1 [(.iload 0, 1), (.iload 2, 1)] (S' := (7, [(0, .inl x0), (1, .inl x1), (2, .inl x2)], [.inl x2, .inl x0], zfC M)) (b := true) (by decide +kernel) rfl rfl ?_
    refine zic_le Hy.1 (off := 7) (tgt := 14) (by decide +kernel) (by decide) (fun hb1 => ?_) (fun hb1 => ?_)
    · replace h := zite_t h hb1
      refine zblq Hy.1 Hy.2.1 [(.iconst 0, 1)] (S' := (15, [(0, .inl x0), (1, .inl x1), (2, .inl x2)], [.inl (0 : Int32)], zfC M)) (b := true) (by decide +kernel) rfl rfl ?_
      cases h
      exact zret_z Hy.1 Hy.2.2 (by decide) hE (by decide +kernel)
    · replace h := zite_f h hb1
      refine zblq Hy.1 Hy.2.1 [(.iconst 1, 1), (.ldc 15, 3)] (S' := (15, [(0, .inl x0), (1, .inl x1), (2, .inl x2)], [.inl (1 : Int32)], zfC M)) (b := true) (by decide +kernel) rfl rfl ?_
      cases h
      exact zret_z Hy.1 Hy.2.2 (by decide) hE (by decide +kernel)
theorem m11_outside_met {l : Launch} {G : zG} (hG : zGok G) (hcn : zgcn G = zcC) {x0 : Int32} {x1 : Int32} {x2 : Int32} {M : cM} {r : Int32} {M' : cM} (h : m11_outside x0 x1 x2 M = some (r, M')) : zMet l G yX11_outside cX11_outside 3 (some .boolean) 0 0 [.inl x0, .inl x1, .inl x2] (zfC M) (some (.inl r)) (zfC M') :=
  zMet_of hG tbX11_ok rfl (by decide +kernel) (Nat.le_of_ble_eq_true rfl) (fun X _ Z hA hE => m11_outside_ok ⟨Z, hcn, hA⟩ hE x0 x1 x2 M h)
abbrev q3_add : ByteArray × Nat × String × zT := (cX3_add, 4, RX3, tbX3)
def m3_add (x1 : Int32) (x2 : Int32) (M : cM) : Option (Int32 × cM) := (if (cg M 3 0 4) < (10 : Int32) then zgd (zin (cg M 3 0 4) 10 && ((Nat.blt (nx (cg M 3 0 4)) 10 && true) && ((Nat.blt (nx (cg M 3 0 4)) 10 && true) && (Nat.blt (nx (cg M 3 0 4)) 10 && true)))) (some (cg (cs (cs (cs M 2 (nx (cg M 3 0 4)) 1 x1) 2 (nx (cg M 3 0 4)) 2 x2) 3 0 4 ((cg (cs (cs M 2 (nx (cg M 3 0 4)) 1 x1) 2 (nx (cg M 3 0 4)) 2 x2) 3 0 4) + (1 : Int32))) 2 (nx (cg M 3 0 4)) 0, cs (cs (cs M 2 (nx (cg M 3 0 4)) 1 x1) 2 (nx (cg M 3 0 4)) 2 x2) 3 0 4 ((cg (cs (cs M 2 (nx (cg M 3 0 4)) 1 x1) 2 (nx (cg M 3 0 4)) 2 x2) 3 0 4) + (1 : Int32)))) else some ((-5 : Int32), M))
theorem m3_add_ok {X : zX} {G : zG} (Hy : zHy X G q3_add zcC 0 0 (some .int)) {r : Int32} {M' : cM} (hE : zEnd X G (some (.inl r)) (zfC M')) (x1 : Int32) (x2 : Int32) (M : cM) (h : m3_add x1 x2 M = some (r, M')) : zGo (X, q3_add, G) 0 0 (0, [(0, .inr (.inr (some (3, 0)))), (1, .inl x1), (2, .inl x2)], [], zfC M) := by
  unfold m3_add at h
  refine zblq Hy.1 Hy.2.1 [(.aload 0, 1), (.multianewarray 3 4, 3), (.iconst 10, 2)] (S' := (6, [(0, .inr (.inr (some (3, 0)))), (1, .inl x1), (2, .inl x2)], [.inl (10 : Int32), .inl (cg M 3 0 4)], zfC M)) (b := true) (by decide +kernel) rfl rfl ?_
  refine zic_lt Hy.1 (off := 6) (tgt := 12) (by decide +kernel) (by decide) (fun hb2 => ?_) (fun hb2 => ?_)
  · replace h := zite_t h hb2
    obtain ⟨hg1, h⟩ := zgd_inv h
    refine zblq Hy.1 Hy.2.1 [(.aload 0, 1), (.getfield 300, 3), (.aload 0, 1), (.multianewarray 3 4, 3), (.aaload, 1), (.astore 3, 1), (.aload 3, 1), (.iload 1, 1), (.invokeinterface 2 1, 3), (.aload 3, 1), (.iload 2, 1), (.invokeinterface 2 2, 3), (.aload 0, 1), (.dup, 1), (.multianewarray 3 4, 3), (.iconst 1, 1), (.iadd, 1), (.invokeinterface 3 4, 3), (.aload 3, 1), (.multianewarray 2 0, 3)] (S' := (46, [(0, .inr (.inr (some (3, 0)))), (1, .inl x1), (2, .inl x2), (3, .inr (.inr (some (2, (nx (cg M 3 0 4))))))], [.inl (cg (cs (cs (cs M 2 (nx (cg M 3 0 4)) 1 x1) 2 (nx (cg M 3 0 4)) 2 x2) 3 0 4 ((cg (cs (cs M 2 (nx (cg M 3 0 4)) 1 x1) 2 (nx (cg M 3 0 4)) 2 x2) 3 0 4) + (1 : Int32))) 2 (nx (cg M 3 0 4)) 0)], zfC (cs (cs (cs M 2 (nx (cg M 3 0 4)) 1 x1) 2 (nx (cg M 3 0 4)) 2 x2) 3 0 4 ((cg (cs (cs M 2 (nx (cg M 3 0 4)) 1 x1) 2 (nx (cg M 3 0 4)) 2 x2) 3 0 4) + (1 : Int32))))) (b := zin (cg M 3 0 4) 10 && ((Nat.blt (nx (cg M 3 0 4)) 10 && true) && ((Nat.blt (nx (cg M 3 0 4)) 10 && true) && (Nat.blt (nx (cg M 3 0 4)) 10 && true)))) (by decide +kernel) rfl hg1 ?_
    cases h
    exact zret_i Hy.1 Hy.2.2 hE (by decide +kernel)
  · replace h := zite_f h hb2
    refine zblq Hy.1 Hy.2.1 [(.iconst (-5), 2)] (S' := (11, [(0, .inr (.inr (some (3, 0)))), (1, .inl x1), (2, .inl x2)], [.inl (-5 : Int32)], zfC M)) (b := true) (by decide +kernel) rfl rfl ?_
    cases h
    exact zret_i Hy.1 Hy.2.2 hE (by decide +kernel)
theorem m3_add_met {l : Launch} {G : zG} (hG : zGok G) (hcn : zgcn G = zcC) {x1 : Int32} {x2 : Int32} {M : cM} {r : Int32} {M' : cM} (h : m3_add x1 x2 M = some (r, M')) : zMet l G yX3_add cX3_add 4 (some .int) 0 0 [.inr (.inr (some (3, 0))), .inl x1, .inl x2] (zfC M) (some (.inl r)) (zfC M') :=
  zMet_of hG tbX3_ok rfl (by decide +kernel) (Nat.le_of_ble_eq_true rfl) (fun X _ Z hA hE => m3_add_ok ⟨Z, hcn, hA⟩ hE x1 x2 M h)
abbrev q11_box : ByteArray × Nat × String × zT := (cX11_box, 3, RX11, tbX11)
def m11_box (x1 : Int32) (x2 : Int32) (M : cM) : Option (Int32 × cM) := zbd (m11_outside x1 (0 : Int32) (1 : Int32) M) (fun r1 M1 => (if r1 = 0 then zbd (m11_outside x2 (0 : Int32) (30000 : Int32) M1) (fun r2 M2 => (if r2 = 0 then zbd (m3_add x1 x2 M2) (fun r3 M3 => some (r3, M3)) else some ((-3 : Int32), M2))) else some ((-3 : Int32), M1)))
theorem m11_box_ok {X : zX} {G : zG} (Hy : zHy X G q11_box zcC 1 23 (some .int)) {r : Int32} {M' : cM} (hE : zEnd X G (some (.inl r)) (zfC M')) (x1 : Int32) (x2 : Int32) (M : cM) (h : m11_box x1 x2 M = some (r, M')) : zGo (X, q11_box, G) 0 0 (0, [(0, .inr (.inr (some (11, 0)))), (1, .inl x1), (2, .inl x2)], [], zfC M) := by
  unfold m11_box at h
  refine zblq Hy.1 Hy.2.1 [(.iload 1, 1), (.iconst 0, 1), (.iconst 1, 1)] (S' := (3, [(0, .inr (.inr (some (11, 0)))), (1, .inl x1), (2, .inl x2)], [.inl (1 : Int32), .inl (0 : Int32), .inl x1], zfC M)) (b := true) (by decide +kernel) rfl rfl ?_
  obtain ⟨r1, M1, hc1, h⟩ := zbd_inv h
  refine zcallS Hy.1 (as := [.inl x1, .inl (0 : Int32), .inl (1 : Int32)]) (st := []) (m11_outside_met (zOK_G Hy.1) Hy.2.1 hc1) cw11_66 m11_outside_in rfl (zroom Hy.2.2 ⟨by decide, by decide⟩) rfl (by decide +kernel) ⟨Nat.zero_le _, Nat.zero_le _⟩ ?_
  refine zif_ne Hy.1 (off := 14) (tgt := 20) (by decide +kernel) (by decide) (fun hb5 => ?_) (fun hb5 => ?_)
  · replace h := zite_f h hb5
    refine zblq Hy.1 Hy.2.1 [(.iconst (-3), 2)] (S' := (22, [(0, .inr (.inr (some (11, 0)))), (1, .inl x1), (2, .inl x2)], [.inl (-3 : Int32)], zfC M1)) (b := true) (by decide +kernel) rfl rfl ?_
    cases h
    exact zret_i Hy.1 Hy.2.2 hE (by decide +kernel)
  · replace h := zite_t h hb5
    refine zblq Hy.1 Hy.2.1 [(.iload 2, 1), (.iconst 0, 1), (.iconst 30000, 3)] (S' := (14, [(0, .inr (.inr (some (11, 0)))), (1, .inl x1), (2, .inl x2)], [.inl (30000 : Int32), .inl (0 : Int32), .inl x2], zfC M1)) (b := true) (by decide +kernel) rfl rfl ?_
    obtain ⟨r2, M2, hc2, h⟩ := zbd_inv h
    refine zcallS Hy.1 (as := [.inl x2, .inl (0 : Int32), .inl (30000 : Int32)]) (st := []) (m11_outside_met (zOK_G Hy.1) Hy.2.1 hc2) cw11_66 m11_outside_in rfl (zroom Hy.2.2 ⟨by decide, by decide⟩) rfl (by decide +kernel) ⟨Nat.zero_le _, Nat.zero_le _⟩ ?_
    refine zif_eq Hy.1 (off := 6) (tgt := 23) (by decide +kernel) (by decide) (fun hb4 => ?_) (fun hb4 => ?_)
    · replace h := zite_t h hb4
      refine zblq Hy.1 Hy.2.1 [(.aload 0, 1), (.getfield 1100, 3), (.iload 1, 1), (.iload 2, 1)] (S' := (29, [(0, .inr (.inr (some (11, 0)))), (1, .inl x1), (2, .inl x2)], [.inl x2, .inl x1, .inr (.inr (some (3, 0)))], zfC M2)) (b := true) (by decide +kernel) rfl rfl ?_
      obtain ⟨r3, M3, hc3, h⟩ := zbd_inv h
      refine zcallV Hy.1 (as := [.inl x1, .inl x2]) (st := []) (m3_add_met (zOK_G Hy.1) Hy.2.1 hc3) cw11_70 m3_add_in m3_add_se (by decide) (zhlv Hy.2.1 rfl) rfl (zroom Hy.2.2 ⟨by decide, by decide⟩) rfl (by decide +kernel) ⟨Nat.zero_le _, Nat.zero_le _⟩ ?_
      cases h
      exact zret_i Hy.1 Hy.2.2 hE (by decide +kernel)
    · replace h := zite_f h hb4
      refine zblq Hy.1 Hy.2.1 [(.iconst (-3), 2)] (S' := (22, [(0, .inr (.inr (some (11, 0)))), (1, .inl x1), (2, .inl x2)], [.inl (-3 : Int32)], zfC M2)) (b := true) (by decide +kernel) rfl rfl ?_
      cases h
      exact zret_i Hy.1 Hy.2.2 hE (by decide +kernel)
theorem m11_box_met {l : Launch} {G : zG} (hG : zGok G) (hcn : zgcn G = zcC) {x1 : Int32} {x2 : Int32} {M : cM} {r : Int32} {M' : cM} (h : m11_box x1 x2 M = some (r, M')) : zMet l G yX11_box cX11_box 3 (some .int) 1 23 [.inr (.inr (some (11, 0))), .inl x1, .inl x2] (zfC M) (some (.inl r)) (zfC M') :=
  zMet_of hG tbX11_ok rfl (by decide +kernel) (Nat.le_of_ble_eq_true rfl) (fun X _ Z hA hE => m11_box_ok ⟨Z, hcn, hA⟩ hE x1 x2 M h)
abbrev q3_knows : ByteArray × Nat × String × zT := (cX3_knows, 2, RX3, tbX3)
def m3_knows (x1 : Int32) (M : cM) : Option (Int32 × cM) := (if x1 < 0 then some ((0 : Int32), M) else (if (cg M 3 0 4) ≤ x1 then some ((0 : Int32), M) else some ((1 : Int32), M)))
theorem m3_knows_ok {X : zX} {G : zG} (Hy : zHy X G q3_knows zcC 0 0 (some .boolean)) {r : Int32} {M' : cM} (hE : zEnd X G (some (.inl r)) (zfC M')) (x1 : Int32) (M : cM) (h : m3_knows x1 M = some (r, M')) : zGo (X, q3_knows, G) 0 0 (0, [(0, .inr (.inr (some (3, 0)))), (1, .inl x1)], [], zfC M) := by
  unfold m3_knows at h
  refine zblq Hy.1 Hy.2.1 [(.iload 1, 1)] (S' := (1, [(0, .inr (.inr (some (3, 0)))), (1, .inl x1)], [.inl x1], zfC M)) (b := true) (by decide +kernel) rfl rfl ?_
  refine zif_lt Hy.1 (off := 15) (tgt := 16) (by decide +kernel) (by decide) (fun hb2 => ?_) (fun hb2 => ?_)
  · replace h := zite_t h hb2
    refine zblq Hy.1 Hy.2.1 [(.iconst 0, 1)] (S' := (17, [(0, .inr (.inr (some (3, 0)))), (1, .inl x1)], [.inl (0 : Int32)], zfC M)) (b := true) (by decide +kernel) rfl rfl ?_
    cases h
    exact zret_z Hy.1 Hy.2.2 (by decide) hE (by decide +kernel)
  · replace h := zite_f h hb2
    refine zblq Hy.1 Hy.2.1 [(.iload 1, 1), (.aload 0, 1), (.multianewarray 3 4, 3)] (S' := (9, [(0, .inr (.inr (some (3, 0)))), (1, .inl x1)], [.inl (cg M 3 0 4), .inl x1], zfC M)) (b := true) (by decide +kernel) rfl rfl ?_
    refine zic_ge Hy.1 (off := 7) (tgt := 16) (by decide +kernel) (by decide) (fun hb1 => ?_) (fun hb1 => ?_)
    · replace h := zite_t h hb1
      refine zblq Hy.1 Hy.2.1 [(.iconst 0, 1)] (S' := (17, [(0, .inr (.inr (some (3, 0)))), (1, .inl x1)], [.inl (0 : Int32)], zfC M)) (b := true) (by decide +kernel) rfl rfl ?_
      cases h
      exact zret_z Hy.1 Hy.2.2 (by decide) hE (by decide +kernel)
    · replace h := zite_f h hb1
      refine zblq Hy.1 Hy.2.1 [(.iconst 1, 1), (.ldc 17, 3)] (S' := (17, [(0, .inr (.inr (some (3, 0)))), (1, .inl x1)], [.inl (1 : Int32)], zfC M)) (b := true) (by decide +kernel) rfl rfl ?_
      cases h
      exact zret_z Hy.1 Hy.2.2 (by decide) hE (by decide +kernel)
theorem m3_knows_met {l : Launch} {G : zG} (hG : zGok G) (hcn : zgcn G = zcC) {x1 : Int32} {M : cM} {r : Int32} {M' : cM} (h : m3_knows x1 M = some (r, M')) : zMet l G yX3_knows cX3_knows 2 (some .boolean) 0 0 [.inr (.inr (some (3, 0))), .inl x1] (zfC M) (some (.inl r)) (zfC M') :=
  zMet_of hG tbX3_ok rfl (by decide +kernel) (Nat.le_of_ble_eq_true rfl) (fun X _ Z hA hE => m3_knows_ok ⟨Z, hcn, hA⟩ hE x1 M h)
abbrev q3_of : ByteArray × Nat × String × zT := (cX3_of, 2, RX3, tbX3)
def m3_of_19 (t1 : Int32) (M : cM) : Option (Nat × cM) := zgd (zin t1 10 && true) (some ((nx t1), M))
theorem m3_of_19_ok {X : zX} {G : zG} (Hy : zHy X G q3_of zcC 0 0 (some (.object "EarField$Box"))) {r : Nat} {M' : cM} (hE : zEnd X G (some (.inr (.inr (some (2, r))))) (zfC M')) (t1 : Int32) (M : cM) (h : m3_of_19 t1 M = some (r, M')) : zGo (X, q3_of, G) 0 0 (19, [], [.inl t1, .inr (.inr (some (400, 0)))], zfC M) := by
  unfold m3_of_19 at h
  obtain ⟨hg1, h⟩ := zgd_inv h
  refine zblq Hy.1 Hy.2.1 [(.aaload, 1)] (S' := (20, [], [.inr (.inr (some (2, (nx t1))))], zfC M)) (b := zin t1 10 && true) (by decide +kernel) rfl hg1 ?_
  cases h
  exact zret_a Hy.1 Hy.2.2 hE (by decide +kernel)
def m3_of (x1 : Int32) (M : cM) : Option (Nat × cM) := (if x1 < 0 then m3_of_19 (0 : Int32) M else (if (10 : Int32) ≤ x1 then m3_of_19 (0 : Int32) M else m3_of_19 x1 M))
theorem m3_of_ok {X : zX} {G : zG} (Hy : zHy X G q3_of zcC 0 0 (some (.object "EarField$Box"))) {r : Nat} {M' : cM} (hE : zEnd X G (some (.inr (.inr (some (2, r))))) (zfC M')) (x1 : Int32) (M : cM) (h : m3_of x1 M = some (r, M')) : zGo (X, q3_of, G) 0 0 (0, [(0, .inr (.inr (some (3, 0)))), (1, .inl x1)], [], zfC M) := by
  unfold m3_of at h
  refine zblq Hy.1 Hy.2.1 [(.aload 0, 1), (.getfield 300, 3), (.iload 1, 1)] (S' := (5, [(0, .inr (.inr (some (3, 0)))), (1, .inl x1)], [.inl x1, .inr (.inr (some (400, 0)))], zfC M)) (b := true) (by decide +kernel) rfl rfl ?_
  refine zif_lt Hy.1 (off := 13) (tgt := 18) (by decide +kernel) (by decide) (fun hb3 => ?_) (fun hb3 => ?_)
  · replace h := zite_t h hb3
    refine zblq Hy.1 Hy.2.1 [(.iconst 0, 1)] (S' := (19, [(0, .inr (.inr (some (3, 0)))), (1, .inl x1)], [.inl (0 : Int32), .inr (.inr (some (400, 0)))], zfC M)) (b := true) (by decide +kernel) rfl rfl ?_
    refine zGo_keep [] rfl ?_
    exact m3_of_19_ok Hy hE (0 : Int32) M h
  · replace h := zite_f h hb3
    refine zblq Hy.1 Hy.2.1 [(.iload 1, 1), (.iconst 10, 2)] (S' := (11, [(0, .inr (.inr (some (3, 0)))), (1, .inl x1)], [.inl (10 : Int32), .inl x1, .inr (.inr (some (400, 0)))], zfC M)) (b := true) (by decide +kernel) rfl rfl ?_
    refine zic_ge Hy.1 (off := 7) (tgt := 18) (by decide +kernel) (by decide) (fun hb2 => ?_) (fun hb2 => ?_)
    · replace h := zite_t h hb2
      refine zblq Hy.1 Hy.2.1 [(.iconst 0, 1)] (S' := (19, [(0, .inr (.inr (some (3, 0)))), (1, .inl x1)], [.inl (0 : Int32), .inr (.inr (some (400, 0)))], zfC M)) (b := true) (by decide +kernel) rfl rfl ?_
      refine zGo_keep [] rfl ?_
      exact m3_of_19_ok Hy hE (0 : Int32) M h
    · replace h := zite_f h hb2
      refine zblq Hy.1 Hy.2.1 [(.iload 1, 1), (.ldc 19, 3)] (S' := (19, [(0, .inr (.inr (some (3, 0)))), (1, .inl x1)], [.inl x1, .inr (.inr (some (400, 0)))], zfC M)) (b := true) (by decide +kernel) rfl rfl ?_
      refine zGo_keep [] rfl ?_
      exact m3_of_19_ok Hy hE x1 M h
theorem m3_of_met {l : Launch} {G : zG} (hG : zGok G) (hcn : zgcn G = zcC) {x1 : Int32} {M : cM} {r : Nat} {M' : cM} (h : m3_of x1 M = some (r, M')) : zMet l G yX3_of cX3_of 2 (some (.object "EarField$Box")) 0 0 [.inr (.inr (some (3, 0))), .inl x1] (zfC M) (some (.inr (.inr (some (2, r))))) (zfC M') :=
  zMet_of hG tbX3_ok rfl (by decide +kernel) (Nat.le_of_ble_eq_true rfl) (fun X _ Z hA hE => m3_of_ok ⟨Z, hcn, hA⟩ hE x1 M h)
abbrev q11_hears : ByteArray × Nat × String × zT := (cX11_hears, 6, RX11, tbX11)
def m11_hears_80 (x5 : Int32) (j0 : Nat) (t1 : Int32) (M : cM) : Option (Int32 × cM) := zgd ((Nat.blt j0 10 && true) && true) (some (x5, cs M 2 j0 9 t1))
theorem m11_hears_80_ok {X : zX} {G : zG} (Hy : zHy X G q11_hears zcC 1 21 (some .int)) {r : Int32} {M' : cM} (hE : zEnd X G (some (.inl r)) (zfC M')) (x5 : Int32) (j0 : Nat) (t1 : Int32) (M : cM) (h : m11_hears_80 x5 j0 t1 M = some (r, M')) : zGo (X, q11_hears, G) 0 0 (80, [(5, .inl x5)], [.inl t1, .inr (.inr (some (2, j0)))], zfC M) := by
  unfold m11_hears_80 at h
  obtain ⟨hg6, h⟩ := zgd_inv h
  refine zblq Hy.1 Hy.2.1 [(.invokeinterface 2 9, 3), (.iload 5, 2)] (S' := (85, [(5, .inl x5)], [.inl x5], zfC (cs M 2 j0 9 t1))) (b := (Nat.blt j0 10 && true) && true) (by decide +kernel) rfl hg6 ?_
  cases h
  exact zret_i Hy.1 Hy.2.2 hE (by decide +kernel)
def m11_hears (x1 : Int32) (x2 : Int32) (x3 : Int32) (M : cM) : Option (Int32 × cM) := zbd (m3_knows x1 M) (fun r1 M1 => (if r1 = 0 then some ((-2 : Int32), M1) else zbd (m3_knows x2 M1) (fun r2 M2 => (if r2 = 0 then some ((-2 : Int32), M2) else (if x1 = x2 then some ((-2 : Int32), M2) else zbd (m3_of x1 M2) (fun r3 M3 => zgd (Nat.blt r3 10 && true) ((if x3 = 0 then zgd (Nat.blt r3 10 && true) (m11_hears_80 ((zshr (cg M3 2 r3 9) x2) &&& (1 : Int32)) r3 ((cg M3 2 r3 9) &&& ((zshl (1 : Int32) x2) ^^^ (-1 : Int32))) M3) else zgd (Nat.blt r3 10 && true) (m11_hears_80 ((zshr (cg M3 2 r3 9) x2) &&& (1 : Int32)) r3 ((cg M3 2 r3 9) ||| (zshl (1 : Int32) x2)) M3)))))))))
theorem m11_hears_ok {X : zX} {G : zG} (Hy : zHy X G q11_hears zcC 1 21 (some .int)) {r : Int32} {M' : cM} (hE : zEnd X G (some (.inl r)) (zfC M')) (x1 : Int32) (x2 : Int32) (x3 : Int32) (M : cM) (h : m11_hears x1 x2 x3 M = some (r, M')) : zGo (X, q11_hears, G) 0 0 (0, [(0, .inr (.inr (some (11, 0)))), (1, .inl x1), (2, .inl x2), (3, .inl x3)], [], zfC M) := by
  unfold m11_hears at h
  refine zblq Hy.1 Hy.2.1 [(.aload 0, 1), (.getfield 1100, 3), (.iload 1, 1)] (S' := (5, [(0, .inr (.inr (some (11, 0)))), (1, .inl x1), (2, .inl x2), (3, .inl x3)], [.inl x1, .inr (.inr (some (3, 0)))], zfC M)) (b := true) (by decide +kernel) rfl rfl ?_
  obtain ⟨r1, M1, hc1, h⟩ := zbd_inv h
  refine zcallV Hy.1 (as := [.inl x1]) (st := []) (m3_knows_met (zOK_G Hy.1) Hy.2.1 hc1) cw11_74 m3_knows_in m3_knows_se (by decide) (zhlv Hy.2.1 rfl) rfl (zroom Hy.2.2 ⟨by decide, by decide⟩) rfl (by decide +kernel) ⟨Nat.zero_le _, Nat.zero_le _⟩ ?_
  refine zif_eq Hy.1 (off := 19) (tgt := 27) (by decide +kernel) (by decide) (fun hb11 => ?_) (fun hb11 => ?_)
  · replace h := zite_t h hb11
    refine zblq Hy.1 Hy.2.1 [(.iconst (-2), 2)] (S' := (29, [(0, .inr (.inr (some (11, 0)))), (1, .inl x1), (2, .inl x2), (3, .inl x3)], [.inl (-2 : Int32)], zfC M1)) (b := true) (by decide +kernel) rfl rfl ?_
    cases h
    exact zret_i Hy.1 Hy.2.2 hE (by decide +kernel)
  · replace h := zite_f h hb11
    refine zblq Hy.1 Hy.2.1 [(.aload 0, 1), (.getfield 1100, 3), (.iload 2, 1)] (S' := (16, [(0, .inr (.inr (some (11, 0)))), (1, .inl x1), (2, .inl x2), (3, .inl x3)], [.inl x2, .inr (.inr (some (3, 0)))], zfC M1)) (b := true) (by decide +kernel) rfl rfl ?_
    obtain ⟨r2, M2, hc2, h⟩ := zbd_inv h
    refine zcallV Hy.1 (as := [.inl x2]) (st := []) (m3_knows_met (zOK_G Hy.1) Hy.2.1 hc2) cw11_74 m3_knows_in m3_knows_se (by decide) (zhlv Hy.2.1 rfl) rfl (zroom Hy.2.2 ⟨by decide, by decide⟩) rfl (by decide +kernel) ⟨Nat.zero_le _, Nat.zero_le _⟩ ?_
    refine zif_eq Hy.1 (off := 8) (tgt := 27) (by decide +kernel) (by decide) (fun hb10 => ?_) (fun hb10 => ?_)
    · replace h := zite_t h hb10
      refine zblq Hy.1 Hy.2.1 [(.iconst (-2), 2)] (S' := (29, [(0, .inr (.inr (some (11, 0)))), (1, .inl x1), (2, .inl x2), (3, .inl x3)], [.inl (-2 : Int32)], zfC M2)) (b := true) (by decide +kernel) rfl rfl ?_
      cases h
      exact zret_i Hy.1 Hy.2.2 hE (by decide +kernel)
    · replace h := zite_f h hb10
      refine zblq Hy.1 Hy.2.1 [(.iload 1, 1), (.iload 2, 1)] (S' := (24, [(0, .inr (.inr (some (11, 0)))), (1, .inl x1), (2, .inl x2), (3, .inl x3)], [.inl x2, .inl x1], zfC M2)) (b := true) (by decide +kernel) rfl rfl ?_
      refine zic_ne Hy.1 (off := 6) (tgt := 30) (by decide +kernel) (by decide) (fun hb9 => ?_) (fun hb9 => ?_)
      · replace h := zite_f h hb9
        refine zblq Hy.1 Hy.2.1 [(.aload 0, 1), (.getfield 1100, 3), (.iload 1, 1)] (S' := (35, [(0, .inr (.inr (some (11, 0)))), (1, .inl x1), (2, .inl x2), (3, .inl x3)], [.inl x1, .inr (.inr (some (3, 0)))], zfC M2)) (b := true) (by decide +kernel) rfl rfl ?_
        obtain ⟨r3, M3, hc3, h⟩ := zbd_inv h
        refine zcallV Hy.1 (as := [.inl x1]) (st := []) (m3_of_met (zOK_G Hy.1) Hy.2.1 hc3) cw11_78 m3_of_in m3_of_se (by decide) (zhlv Hy.2.1 rfl) rfl (zroom Hy.2.2 ⟨by decide, by decide⟩) rfl (by decide +kernel) ⟨Nat.zero_le _, Nat.zero_le _⟩ ?_
        obtain ⟨hg4, h⟩ := zgd_inv h
        refine zblq Hy.1 Hy.2.1 [(.astore 4, 2), (.aload 4, 2), (.multianewarray 2 9, 3), (.iload 2, 1), (.ishr, 1), (.iconst 1, 1), (.iand, 1), (.istore 5, 2), (.aload 4, 2), (.iload 3, 1)] (S' := (54, [(0, .inr (.inr (some (11, 0)))), (1, .inl x1), (2, .inl x2), (3, .inl x3), (4, .inr (.inr (some (2, r3)))), (5, .inl ((zshr (cg M3 2 r3 9) x2) &&& (1 : Int32)))], [.inl x3, .inr (.inr (some (2, r3)))], zfC M3)) (b := Nat.blt r3 10 && true) (by decide +kernel) rfl hg4 ?_
        refine zif_eq Hy.1 (off := 15) (tgt := 69) (by decide +kernel) (by decide) (fun hb8 => ?_) (fun hb8 => ?_)
        · replace h := zite_t h hb8
          obtain ⟨hg5, h⟩ := zgd_inv h
          refine zblq Hy.1 Hy.2.1 [(.aload 4, 2), (.multianewarray 2 9, 3), (.iconst 1, 1), (.iload 2, 1), (.ishl, 1), (.iconst (-1), 1), (.ixor, 1), (.iand, 1)] (S' := (80, [(0, .inr (.inr (some (11, 0)))), (1, .inl x1), (2, .inl x2), (3, .inl x3), (4, .inr (.inr (some (2, r3)))), (5, .inl ((zshr (cg M3 2 r3 9) x2) &&& (1 : Int32)))], [.inl ((cg M3 2 r3 9) &&& ((zshl (1 : Int32) x2) ^^^ (-1 : Int32))), .inr (.inr (some (2, r3)))], zfC M3)) (b := Nat.blt r3 10 && true) (by decide +kernel) rfl hg5 ?_
          refine zGo_keep [5] rfl ?_
          exact m11_hears_80_ok Hy hE ((zshr (cg M3 2 r3 9) x2) &&& (1 : Int32)) r3 ((cg M3 2 r3 9) &&& ((zshl (1 : Int32) x2) ^^^ (-1 : Int32))) M3 h
        · replace h := zite_f h hb8
          obtain ⟨hg7, h⟩ := zgd_inv h
          refine zblq Hy.1 Hy.2.1 [(.aload 4, 2), (.multianewarray 2 9, 3), (.iconst 1, 1), (.iload 2, 1), (.ishl, 1), (.ior, 1), (.ldc 80, 3)] (S' := (80, [(0, .inr (.inr (some (11, 0)))), (1, .inl x1), (2, .inl x2), (3, .inl x3), (4, .inr (.inr (some (2, r3)))), (5, .inl ((zshr (cg M3 2 r3 9) x2) &&& (1 : Int32)))], [.inl ((cg M3 2 r3 9) ||| (zshl (1 : Int32) x2)), .inr (.inr (some (2, r3)))], zfC M3)) (b := Nat.blt r3 10 && true) (by decide +kernel) rfl hg7 ?_
          refine zGo_keep [5] rfl ?_
          exact m11_hears_80_ok Hy hE ((zshr (cg M3 2 r3 9) x2) &&& (1 : Int32)) r3 ((cg M3 2 r3 9) ||| (zshl (1 : Int32) x2)) M3 h
      · replace h := zite_t h hb9
        refine zblq Hy.1 Hy.2.1 [(.iconst (-2), 2)] (S' := (29, [(0, .inr (.inr (some (11, 0)))), (1, .inl x1), (2, .inl x2), (3, .inl x3)], [.inl (-2 : Int32)], zfC M2)) (b := true) (by decide +kernel) rfl rfl ?_
        cases h
        exact zret_i Hy.1 Hy.2.2 hE (by decide +kernel)
theorem m11_hears_met {l : Launch} {G : zG} (hG : zGok G) (hcn : zgcn G = zcC) {x1 : Int32} {x2 : Int32} {x3 : Int32} {M : cM} {r : Int32} {M' : cM} (h : m11_hears x1 x2 x3 M = some (r, M')) : zMet l G yX11_hears cX11_hears 6 (some .int) 1 21 [.inr (.inr (some (11, 0))), .inl x1, .inl x2, .inl x3] (zfC M) (some (.inl r)) (zfC M') :=
  zMet_of hG tbX11_ok rfl (by decide +kernel) (Nat.le_of_ble_eq_true rfl) (fun X _ Z hA hE => m11_hears_ok ⟨Z, hcn, hA⟩ hE x1 x2 x3 M h)
abbrev q11_sleep : ByteArray × Nat × String × zT := (cX11_sleep, 5, RX11, tbX11)
def m11_sleep (x1 : Int32) (x2 : Int32) (x3 : Int32) (M : cM) : Option (Int32 × cM) := zbd (m3_knows x1 M) (fun r1 M1 => (if r1 = 0 then some ((-2 : Int32), M1) else zbd (m11_outside x2 (1 : Int32) (12 : Int32) M1) (fun r2 M2 => (if r2 = 0 then zbd (m11_outside x3 (0 : Int32) ((zshl (1 : Int32) x2) - (1 : Int32)) M2) (fun r3 M3 => (if r3 = 0 then zbd (m3_of x1 M3) (fun r4 M4 => zgd ((Nat.blt r4 10 && true) && ((Nat.blt r4 10 && true) && true)) (some ((1 : Int32), cs (cs M4 2 r4 3 x2) 2 r4 4 x3))) else some ((-3 : Int32), M3))) else some ((-3 : Int32), M2)))))
theorem m11_sleep_ok {X : zX} {G : zG} (Hy : zHy X G q11_sleep zcC 1 22 (some .int)) {r : Int32} {M' : cM} (hE : zEnd X G (some (.inl r)) (zfC M')) (x1 : Int32) (x2 : Int32) (x3 : Int32) (M : cM) (h : m11_sleep x1 x2 x3 M = some (r, M')) : zGo (X, q11_sleep, G) 0 0 (0, [(0, .inr (.inr (some (11, 0)))), (1, .inl x1), (2, .inl x2), (3, .inl x3)], [], zfC M) := by
  unfold m11_sleep at h
  refine zblq Hy.1 Hy.2.1 [(.aload 0, 1), (.getfield 1100, 3), (.iload 1, 1)] (S' := (5, [(0, .inr (.inr (some (11, 0)))), (1, .inl x1), (2, .inl x2), (3, .inl x3)], [.inl x1, .inr (.inr (some (3, 0)))], zfC M)) (b := true) (by decide +kernel) rfl rfl ?_
  obtain ⟨r1, M1, hc1, h⟩ := zbd_inv h
  refine zcallV Hy.1 (as := [.inl x1]) (st := []) (m3_knows_met (zOK_G Hy.1) Hy.2.1 hc1) cw11_74 m3_knows_in m3_knows_se (by decide) (zhlv Hy.2.1 rfl) rfl (zroom Hy.2.2 ⟨by decide, by decide⟩) rfl (by decide +kernel) ⟨Nat.zero_le _, Nat.zero_le _⟩ ?_
  refine zif_ne Hy.1 (off := 6) (tgt := 14) (by decide +kernel) (by decide) (fun hb8 => ?_) (fun hb8 => ?_)
  · replace h := zite_f h hb8
    refine zblq Hy.1 Hy.2.1 [(.iload 2, 1), (.iconst 1, 1), (.iconst 12, 2)] (S' := (18, [(0, .inr (.inr (some (11, 0)))), (1, .inl x1), (2, .inl x2), (3, .inl x3)], [.inl (12 : Int32), .inl (1 : Int32), .inl x2], zfC M1)) (b := true) (by decide +kernel) rfl rfl ?_
    obtain ⟨r2, M2, hc2, h⟩ := zbd_inv h
    refine zcallS Hy.1 (as := [.inl x2, .inl (1 : Int32), .inl (12 : Int32)]) (st := []) (m11_outside_met (zOK_G Hy.1) Hy.2.1 hc2) cw11_66 m11_outside_in rfl (zroom Hy.2.2 ⟨by decide, by decide⟩) rfl (by decide +kernel) ⟨Nat.zero_le _, Nat.zero_le _⟩ ?_
    refine zif_ne Hy.1 (off := 16) (tgt := 37) (by decide +kernel) (by decide) (fun hb7 => ?_) (fun hb7 => ?_)
    · replace h := zite_f h hb7
      refine zblq Hy.1 Hy.2.1 [(.iconst (-3), 2)] (S' := (39, [(0, .inr (.inr (some (11, 0)))), (1, .inl x1), (2, .inl x2), (3, .inl x3)], [.inl (-3 : Int32)], zfC M2)) (b := true) (by decide +kernel) rfl rfl ?_
      cases h
      exact zret_i Hy.1 Hy.2.2 hE (by decide +kernel)
    · replace h := zite_t h hb7
      refine zblq Hy.1 Hy.2.1 [(.iload 3, 1), (.iconst 0, 1), (.iconst 1, 1), (.iload 2, 1), (.ishl, 1), (.iconst 1, 1), (.isub, 1)] (S' := (31, [(0, .inr (.inr (some (11, 0)))), (1, .inl x1), (2, .inl x2), (3, .inl x3)], [.inl ((zshl (1 : Int32) x2) - (1 : Int32)), .inl (0 : Int32), .inl x3], zfC M2)) (b := true) (by decide +kernel) rfl rfl ?_
      obtain ⟨r3, M3, hc3, h⟩ := zbd_inv h
      refine zcallS Hy.1 (as := [.inl x3, .inl (0 : Int32), .inl ((zshl (1 : Int32) x2) - (1 : Int32))]) (st := []) (m11_outside_met (zOK_G Hy.1) Hy.2.1 hc3) cw11_66 m11_outside_in rfl (zroom Hy.2.2 ⟨by decide, by decide⟩) rfl (by decide +kernel) ⟨Nat.zero_le _, Nat.zero_le _⟩ ?_
      refine zif_eq Hy.1 (off := 6) (tgt := 40) (by decide +kernel) (by decide) (fun hb6 => ?_) (fun hb6 => ?_)
      · replace h := zite_t h hb6
        refine zblq Hy.1 Hy.2.1 [(.aload 0, 1), (.getfield 1100, 3), (.iload 1, 1)] (S' := (45, [(0, .inr (.inr (some (11, 0)))), (1, .inl x1), (2, .inl x2), (3, .inl x3)], [.inl x1, .inr (.inr (some (3, 0)))], zfC M3)) (b := true) (by decide +kernel) rfl rfl ?_
        obtain ⟨r4, M4, hc4, h⟩ := zbd_inv h
        refine zcallV Hy.1 (as := [.inl x1]) (st := []) (m3_of_met (zOK_G Hy.1) Hy.2.1 hc4) cw11_78 m3_of_in m3_of_se (by decide) (zhlv Hy.2.1 rfl) rfl (zroom Hy.2.2 ⟨by decide, by decide⟩) rfl (by decide +kernel) ⟨Nat.zero_le _, Nat.zero_le _⟩ ?_
        obtain ⟨hg5, h⟩ := zgd_inv h
        refine zblq Hy.1 Hy.2.1 [(.astore 4, 2), (.aload 4, 2), (.iload 2, 1), (.invokeinterface 2 3, 3), (.aload 4, 2), (.iload 3, 1), (.invokeinterface 2 4, 3), (.iconst 1, 1)] (S' := (63, [(0, .inr (.inr (some (11, 0)))), (1, .inl x1), (2, .inl x2), (3, .inl x3), (4, .inr (.inr (some (2, r4))))], [.inl (1 : Int32)], zfC (cs (cs M4 2 r4 3 x2) 2 r4 4 x3))) (b := (Nat.blt r4 10 && true) && ((Nat.blt r4 10 && true) && true)) (by decide +kernel) rfl hg5 ?_
        cases h
        exact zret_i Hy.1 Hy.2.2 hE (by decide +kernel)
      · replace h := zite_f h hb6
        refine zblq Hy.1 Hy.2.1 [(.iconst (-3), 2)] (S' := (39, [(0, .inr (.inr (some (11, 0)))), (1, .inl x1), (2, .inl x2), (3, .inl x3)], [.inl (-3 : Int32)], zfC M3)) (b := true) (by decide +kernel) rfl rfl ?_
        cases h
        exact zret_i Hy.1 Hy.2.2 hE (by decide +kernel)
  · replace h := zite_t h hb8
    refine zblq Hy.1 Hy.2.1 [(.iconst (-2), 2)] (S' := (13, [(0, .inr (.inr (some (11, 0)))), (1, .inl x1), (2, .inl x2), (3, .inl x3)], [.inl (-2 : Int32)], zfC M1)) (b := true) (by decide +kernel) rfl rfl ?_
    cases h
    exact zret_i Hy.1 Hy.2.2 hE (by decide +kernel)
theorem m11_sleep_met {l : Launch} {G : zG} (hG : zGok G) (hcn : zgcn G = zcC) {x1 : Int32} {x2 : Int32} {x3 : Int32} {M : cM} {r : Int32} {M' : cM} (h : m11_sleep x1 x2 x3 M = some (r, M')) : zMet l G yX11_sleep cX11_sleep 5 (some .int) 1 22 [.inr (.inr (some (11, 0))), .inl x1, .inl x2, .inl x3] (zfC M) (some (.inl r)) (zfC M') :=
  zMet_of hG tbX11_ok rfl (by decide +kernel) (Nat.le_of_ble_eq_true rfl) (fun X _ Z hA hE => m11_sleep_ok ⟨Z, hcn, hA⟩ hE x1 x2 x3 M h)
abbrev q11_clock : ByteArray × Nat × String × zT := (cX11_clock, 5, RX11, tbX11)
def m11_clock (x1 : Int32) (x2 : Int32) (x3 : Int32) (M : cM) : Option (Int32 × cM) := zbd (m3_knows x1 M) (fun r1 M1 => (if r1 = 0 then some ((-2 : Int32), M1) else zbd (m11_outside x2 (-20 : Int32) (20 : Int32) M1) (fun r2 M2 => (if r2 = 0 then zbd (m11_outside x3 (-50 : Int32) (50 : Int32) M2) (fun r3 M3 => (if r3 = 0 then zbd (m3_of x1 M3) (fun r4 M4 => zgd ((Nat.blt r4 10 && true) && ((Nat.blt r4 10 && true) && true)) (some ((1 : Int32), cs (cs M4 2 r4 5 x2) 2 r4 6 x3))) else some ((-3 : Int32), M3))) else some ((-3 : Int32), M2)))))
theorem m11_clock_ok {X : zX} {G : zG} (Hy : zHy X G q11_clock zcC 1 22 (some .int)) {r : Int32} {M' : cM} (hE : zEnd X G (some (.inl r)) (zfC M')) (x1 : Int32) (x2 : Int32) (x3 : Int32) (M : cM) (h : m11_clock x1 x2 x3 M = some (r, M')) : zGo (X, q11_clock, G) 0 0 (0, [(0, .inr (.inr (some (11, 0)))), (1, .inl x1), (2, .inl x2), (3, .inl x3)], [], zfC M) := by
  unfold m11_clock at h
  refine zblq Hy.1 Hy.2.1 [(.aload 0, 1), (.getfield 1100, 3), (.iload 1, 1)] (S' := (5, [(0, .inr (.inr (some (11, 0)))), (1, .inl x1), (2, .inl x2), (3, .inl x3)], [.inl x1, .inr (.inr (some (3, 0)))], zfC M)) (b := true) (by decide +kernel) rfl rfl ?_
  obtain ⟨r1, M1, hc1, h⟩ := zbd_inv h
  refine zcallV Hy.1 (as := [.inl x1]) (st := []) (m3_knows_met (zOK_G Hy.1) Hy.2.1 hc1) cw11_74 m3_knows_in m3_knows_se (by decide) (zhlv Hy.2.1 rfl) rfl (zroom Hy.2.2 ⟨by decide, by decide⟩) rfl (by decide +kernel) ⟨Nat.zero_le _, Nat.zero_le _⟩ ?_
  refine zif_ne Hy.1 (off := 6) (tgt := 14) (by decide +kernel) (by decide) (fun hb8 => ?_) (fun hb8 => ?_)
  · replace h := zite_f h hb8
    refine zblq Hy.1 Hy.2.1 [(.iload 2, 1), (.iconst (-20), 2), (.iconst 20, 2)] (S' := (19, [(0, .inr (.inr (some (11, 0)))), (1, .inl x1), (2, .inl x2), (3, .inl x3)], [.inl (20 : Int32), .inl (-20 : Int32), .inl x2], zfC M1)) (b := true) (by decide +kernel) rfl rfl ?_
    obtain ⟨r2, M2, hc2, h⟩ := zbd_inv h
    refine zcallS Hy.1 (as := [.inl x2, .inl (-20 : Int32), .inl (20 : Int32)]) (st := []) (m11_outside_met (zOK_G Hy.1) Hy.2.1 hc2) cw11_66 m11_outside_in rfl (zroom Hy.2.2 ⟨by decide, by decide⟩) rfl (by decide +kernel) ⟨Nat.zero_le _, Nat.zero_le _⟩ ?_
    refine zif_ne Hy.1 (off := 14) (tgt := 36) (by decide +kernel) (by decide) (fun hb7 => ?_) (fun hb7 => ?_)
    · replace h := zite_f h hb7
      refine zblq Hy.1 Hy.2.1 [(.iconst (-3), 2)] (S' := (38, [(0, .inr (.inr (some (11, 0)))), (1, .inl x1), (2, .inl x2), (3, .inl x3)], [.inl (-3 : Int32)], zfC M2)) (b := true) (by decide +kernel) rfl rfl ?_
      cases h
      exact zret_i Hy.1 Hy.2.2 hE (by decide +kernel)
    · replace h := zite_t h hb7
      refine zblq Hy.1 Hy.2.1 [(.iload 3, 1), (.iconst (-50), 2), (.iconst 50, 2)] (S' := (30, [(0, .inr (.inr (some (11, 0)))), (1, .inl x1), (2, .inl x2), (3, .inl x3)], [.inl (50 : Int32), .inl (-50 : Int32), .inl x3], zfC M2)) (b := true) (by decide +kernel) rfl rfl ?_
      obtain ⟨r3, M3, hc3, h⟩ := zbd_inv h
      refine zcallS Hy.1 (as := [.inl x3, .inl (-50 : Int32), .inl (50 : Int32)]) (st := []) (m11_outside_met (zOK_G Hy.1) Hy.2.1 hc3) cw11_66 m11_outside_in rfl (zroom Hy.2.2 ⟨by decide, by decide⟩) rfl (by decide +kernel) ⟨Nat.zero_le _, Nat.zero_le _⟩ ?_
      refine zif_eq Hy.1 (off := 6) (tgt := 39) (by decide +kernel) (by decide) (fun hb6 => ?_) (fun hb6 => ?_)
      · replace h := zite_t h hb6
        refine zblq Hy.1 Hy.2.1 [(.aload 0, 1), (.getfield 1100, 3), (.iload 1, 1)] (S' := (44, [(0, .inr (.inr (some (11, 0)))), (1, .inl x1), (2, .inl x2), (3, .inl x3)], [.inl x1, .inr (.inr (some (3, 0)))], zfC M3)) (b := true) (by decide +kernel) rfl rfl ?_
        obtain ⟨r4, M4, hc4, h⟩ := zbd_inv h
        refine zcallV Hy.1 (as := [.inl x1]) (st := []) (m3_of_met (zOK_G Hy.1) Hy.2.1 hc4) cw11_78 m3_of_in m3_of_se (by decide) (zhlv Hy.2.1 rfl) rfl (zroom Hy.2.2 ⟨by decide, by decide⟩) rfl (by decide +kernel) ⟨Nat.zero_le _, Nat.zero_le _⟩ ?_
        obtain ⟨hg5, h⟩ := zgd_inv h
        refine zblq Hy.1 Hy.2.1 [(.astore 4, 2), (.aload 4, 2), (.iload 2, 1), (.invokeinterface 2 5, 3), (.aload 4, 2), (.iload 3, 1), (.invokeinterface 2 6, 3), (.iconst 1, 1)] (S' := (62, [(0, .inr (.inr (some (11, 0)))), (1, .inl x1), (2, .inl x2), (3, .inl x3), (4, .inr (.inr (some (2, r4))))], [.inl (1 : Int32)], zfC (cs (cs M4 2 r4 5 x2) 2 r4 6 x3))) (b := (Nat.blt r4 10 && true) && ((Nat.blt r4 10 && true) && true)) (by decide +kernel) rfl hg5 ?_
        cases h
        exact zret_i Hy.1 Hy.2.2 hE (by decide +kernel)
      · replace h := zite_f h hb6
        refine zblq Hy.1 Hy.2.1 [(.iconst (-3), 2)] (S' := (38, [(0, .inr (.inr (some (11, 0)))), (1, .inl x1), (2, .inl x2), (3, .inl x3)], [.inl (-3 : Int32)], zfC M3)) (b := true) (by decide +kernel) rfl rfl ?_
        cases h
        exact zret_i Hy.1 Hy.2.2 hE (by decide +kernel)
  · replace h := zite_t h hb8
    refine zblq Hy.1 Hy.2.1 [(.iconst (-2), 2)] (S' := (13, [(0, .inr (.inr (some (11, 0)))), (1, .inl x1), (2, .inl x2), (3, .inl x3)], [.inl (-2 : Int32)], zfC M1)) (b := true) (by decide +kernel) rfl rfl ?_
    cases h
    exact zret_i Hy.1 Hy.2.2 hE (by decide +kernel)
theorem m11_clock_met {l : Launch} {G : zG} (hG : zGok G) (hcn : zgcn G = zcC) {x1 : Int32} {x2 : Int32} {x3 : Int32} {M : cM} {r : Int32} {M' : cM} (h : m11_clock x1 x2 x3 M = some (r, M')) : zMet l G yX11_clock cX11_clock 5 (some .int) 1 22 [.inr (.inr (some (11, 0))), .inl x1, .inl x2, .inl x3] (zfC M) (some (.inl r)) (zfC M') :=
  zMet_of hG tbX11_ok rfl (by decide +kernel) (Nat.le_of_ble_eq_true rfl) (fun X _ Z hA hE => m11_clock_ok ⟨Z, hcn, hA⟩ hE x1 x2 x3 M h)
abbrev q3_maySet : ByteArray × Nat × String × zT := (cX3_maySet, 3, RX3, tbX3)
def m3_maySet (x1 : Int32) (x2 : Int32) (M : cM) : Option (Int32 × cM) := (if x1 < 0 then some ((0 : Int32), M) else (if x1 < (7 : Int32) then zgd (zin x1 7 && true) ((if x2 < (zsv 0 (nx x1)) then some ((0 : Int32), M) else zgd (zin x1 7 && true) ((if (zsv 1 (nx x1)) < x2 then some ((0 : Int32), M) else some ((1 : Int32), M))))) else some ((0 : Int32), M)))
theorem m3_maySet_ok {X : zX} {G : zG} (Hy : zHy X G q3_maySet zcC 0 0 (some .boolean)) {r : Int32} {M' : cM} (hE : zEnd X G (some (.inl r)) (zfC M')) (x1 : Int32) (x2 : Int32) (M : cM) (h : m3_maySet x1 x2 M = some (r, M')) : zGo (X, q3_maySet, G) 0 0 (0, [(0, .inr (.inr (some (3, 0)))), (1, .inl x1), (2, .inl x2)], [], zfC M) := by
  unfold m3_maySet at h
  refine zblq Hy.1 Hy.2.1 [(.iload 1, 1)] (S' := (1, [(0, .inr (.inr (some (3, 0)))), (1, .inl x1), (2, .inl x2)], [.inl x1], zfC M)) (b := true) (by decide +kernel) rfl rfl ?_
  refine zif_lt Hy.1 (off := 12) (tgt := 13) (by decide +kernel) (by decide) (fun hb6 => ?_) (fun hb6 => ?_)
  · replace h := zite_t h hb6
    refine zblq Hy.1 Hy.2.1 [(.iconst 0, 1)] (S' := (14, [(0, .inr (.inr (some (3, 0)))), (1, .inl x1), (2, .inl x2)], [.inl (0 : Int32)], zfC M)) (b := true) (by decide +kernel) rfl rfl ?_
    cases h
    exact zret_z Hy.1 Hy.2.2 (by decide) hE (by decide +kernel)
  · replace h := zite_f h hb6
    refine zblq Hy.1 Hy.2.1 [(.iload 1, 1), (.aload 0, 1), (.getfield 301, 3), (.arraylength, 1)] (S' := (10, [(0, .inr (.inr (some (3, 0)))), (1, .inl x1), (2, .inl x2)], [.inl (7 : Int32), .inl x1], zfC M)) (b := true) (by decide +kernel) rfl rfl ?_
    refine zic_lt Hy.1 (off := 5) (tgt := 15) (by decide +kernel) (by decide) (fun hb5 => ?_) (fun hb5 => ?_)
    · replace h := zite_t h hb5
      obtain ⟨hg1, h⟩ := zgd_inv h
      refine zblq Hy.1 Hy.2.1 [(.iload 2, 1), (.getstatic 0, 3), (.iload 1, 1), (.iaload, 1)] (S' := (21, [(0, .inr (.inr (some (3, 0)))), (1, .inl x1), (2, .inl x2)], [.inl (zsv 0 (nx x1)), .inl x2], zfC M)) (b := zin x1 7 && true) (by decide +kernel) rfl hg1 ?_
      refine zic_lt Hy.1 (off := 16) (tgt := 37) (by decide +kernel) (by decide) (fun hb4 => ?_) (fun hb4 => ?_)
      · replace h := zite_t h hb4
        refine zblq Hy.1 Hy.2.1 [(.iconst 0, 1)] (S' := (38, [(0, .inr (.inr (some (3, 0)))), (1, .inl x1), (2, .inl x2)], [.inl (0 : Int32)], zfC M)) (b := true) (by decide +kernel) rfl rfl ?_
        cases h
        exact zret_z Hy.1 Hy.2.2 (by decide) hE (by decide +kernel)
      · replace h := zite_f h hb4
        obtain ⟨hg2, h⟩ := zgd_inv h
        refine zblq Hy.1 Hy.2.1 [(.iload 2, 1), (.getstatic 1, 3), (.iload 1, 1), (.iaload, 1)] (S' := (30, [(0, .inr (.inr (some (3, 0)))), (1, .inl x1), (2, .inl x2)], [.inl (zsv 1 (nx x1)), .inl x2], zfC M)) (b := zin x1 7 && true) (by decide +kernel) rfl hg2 ?_
        refine zic_gt Hy.1 (off := 7) (tgt := 37) (by decide +kernel) (by decide) (fun hb3 => ?_) (fun hb3 => ?_)
        · replace h := zite_t h hb3
          refine zblq Hy.1 Hy.2.1 [(.iconst 0, 1)] (S' := (38, [(0, .inr (.inr (some (3, 0)))), (1, .inl x1), (2, .inl x2)], [.inl (0 : Int32)], zfC M)) (b := true) (by decide +kernel) rfl rfl ?_
          cases h
          exact zret_z Hy.1 Hy.2.2 (by decide) hE (by decide +kernel)
        · replace h := zite_f h hb3
          refine zblq Hy.1 Hy.2.1 [(.iconst 1, 1), (.ldc 38, 3)] (S' := (38, [(0, .inr (.inr (some (3, 0)))), (1, .inl x1), (2, .inl x2)], [.inl (1 : Int32)], zfC M)) (b := true) (by decide +kernel) rfl rfl ?_
          cases h
          exact zret_z Hy.1 Hy.2.2 (by decide) hE (by decide +kernel)
    · replace h := zite_f h hb5
      refine zblq Hy.1 Hy.2.1 [(.iconst 0, 1)] (S' := (14, [(0, .inr (.inr (some (3, 0)))), (1, .inl x1), (2, .inl x2)], [.inl (0 : Int32)], zfC M)) (b := true) (by decide +kernel) rfl rfl ?_
      cases h
      exact zret_z Hy.1 Hy.2.2 (by decide) hE (by decide +kernel)
theorem m3_maySet_met {l : Launch} {G : zG} (hG : zGok G) (hcn : zgcn G = zcC) {x1 : Int32} {x2 : Int32} {M : cM} {r : Int32} {M' : cM} (h : m3_maySet x1 x2 M = some (r, M')) : zMet l G yX3_maySet cX3_maySet 3 (some .boolean) 0 0 [.inr (.inr (some (3, 0))), .inl x1, .inl x2] (zfC M) (some (.inl r)) (zfC M') :=
  zMet_of hG tbX3_ok rfl (by decide +kernel) (Nat.le_of_ble_eq_true rfl) (fun X _ Z hA hE => m3_maySet_ok ⟨Z, hcn, hA⟩ hE x1 x2 M h)
abbrev q3_setting : ByteArray × Nat × String × zT := (cX3_setting, 2, RX3, tbX3)
def m3_setting (x1 : Int32) (M : cM) : Option (Int32 × cM) := (if x1 < 0 then some ((0 : Int32), M) else (if (7 : Int32) ≤ x1 then some ((0 : Int32), M) else zgd (zin x1 7 && true) (some (cg M 401 0 (nx x1), M))))
theorem m3_setting_ok {X : zX} {G : zG} (Hy : zHy X G q3_setting zcC 0 0 (some .int)) {r : Int32} {M' : cM} (hE : zEnd X G (some (.inl r)) (zfC M')) (x1 : Int32) (M : cM) (h : m3_setting x1 M = some (r, M')) : zGo (X, q3_setting, G) 0 0 (0, [(0, .inr (.inr (some (3, 0)))), (1, .inl x1)], [], zfC M) := by
  unfold m3_setting at h
  refine zblq Hy.1 Hy.2.1 [(.iload 1, 1)] (S' := (1, [(0, .inr (.inr (some (3, 0)))), (1, .inl x1)], [.inl x1], zfC M)) (b := true) (by decide +kernel) rfl rfl ?_
  refine zif_lt Hy.1 (off := 21) (tgt := 22) (by decide +kernel) (by decide) (fun hb3 => ?_) (fun hb3 => ?_)
  · replace h := zite_t h hb3
    refine zblq Hy.1 Hy.2.1 [(.iconst 0, 1)] (S' := (23, [(0, .inr (.inr (some (3, 0)))), (1, .inl x1)], [.inl (0 : Int32)], zfC M)) (b := true) (by decide +kernel) rfl rfl ?_
    cases h
    exact zret_i Hy.1 Hy.2.2 hE (by decide +kernel)
  · replace h := zite_f h hb3
    refine zblq Hy.1 Hy.2.1 [(.iload 1, 1), (.aload 0, 1), (.getfield 301, 3), (.arraylength, 1)] (S' := (10, [(0, .inr (.inr (some (3, 0)))), (1, .inl x1)], [.inl (7 : Int32), .inl x1], zfC M)) (b := true) (by decide +kernel) rfl rfl ?_
    refine zic_ge Hy.1 (off := 12) (tgt := 22) (by decide +kernel) (by decide) (fun hb2 => ?_) (fun hb2 => ?_)
    · replace h := zite_t h hb2
      refine zblq Hy.1 Hy.2.1 [(.iconst 0, 1)] (S' := (23, [(0, .inr (.inr (some (3, 0)))), (1, .inl x1)], [.inl (0 : Int32)], zfC M)) (b := true) (by decide +kernel) rfl rfl ?_
      cases h
      exact zret_i Hy.1 Hy.2.2 hE (by decide +kernel)
    · replace h := zite_f h hb2
      obtain ⟨hg1, h⟩ := zgd_inv h
      refine zblq Hy.1 Hy.2.1 [(.aload 0, 1), (.getfield 301, 3), (.iload 1, 1), (.iaload, 1), (.ldc 23, 3)] (S' := (23, [(0, .inr (.inr (some (3, 0)))), (1, .inl x1)], [.inl (cg M 401 0 (nx x1))], zfC M)) (b := zin x1 7 && true) (by decide +kernel) rfl hg1 ?_
      cases h
      exact zret_i Hy.1 Hy.2.2 hE (by decide +kernel)
theorem m3_setting_met {l : Launch} {G : zG} (hG : zGok G) (hcn : zgcn G = zcC) {x1 : Int32} {M : cM} {r : Int32} {M' : cM} (h : m3_setting x1 M = some (r, M')) : zMet l G yX3_setting cX3_setting 2 (some .int) 0 0 [.inr (.inr (some (3, 0))), .inl x1] (zfC M) (some (.inl r)) (zfC M') :=
  zMet_of hG tbX3_ok rfl (by decide +kernel) (Nat.le_of_ble_eq_true rfl) (fun X _ Z hA hE => m3_setting_ok ⟨Z, hcn, hA⟩ hE x1 M h)
abbrev q3_change : ByteArray × Nat × String × zT := (cX3_change, 3, RX3, tbX3)
def m3_change (x1 : Int32) (x2 : Int32) (M : cM) : Option cM := zbd (m3_maySet x1 x2 M) (fun r1 M1 => (if r1 = 0 then some M1 else zgd (zin x1 7 && true) (some (cs M1 401 0 (nx x1) x2))))
theorem m3_change_ok {X : zX} {G : zG} (Hy : zHy X G q3_change zcC 1 22 (none)) {M' : cM} (hE : zEnd X G (none) (zfC M')) (x1 : Int32) (x2 : Int32) (M : cM) (h : m3_change x1 x2 M = some M') : zGo (X, q3_change, G) 0 0 (0, [(0, .inr (.inr (some (3, 0)))), (1, .inl x1), (2, .inl x2)], [], zfC M) := by
  unfold m3_change at h
  refine zblq Hy.1 Hy.2.1 [(.aload 0, 1), (.iload 1, 1), (.iload 2, 1)] (S' := (3, [(0, .inr (.inr (some (3, 0)))), (1, .inl x1), (2, .inl x2)], [.inl x2, .inl x1, .inr (.inr (some (3, 0)))], zfC M)) (b := true) (by decide +kernel) rfl rfl ?_
  obtain ⟨r1, M1, hc1, h⟩ := zbd_inv h
  refine zcallV Hy.1 (as := [.inl x1, .inl x2]) (st := []) (m3_maySet_met (zOK_G Hy.1) Hy.2.1 hc1) cw3_49 m3_maySet_in m3_maySet_se (by decide) (zhlv Hy.2.1 rfl) rfl (zroom Hy.2.2 ⟨by decide, by decide⟩) rfl (by decide +kernel) ⟨Nat.zero_le _, Nat.zero_le _⟩ ?_
  refine zif_eq Hy.1 (off := 10) (tgt := 16) (by decide +kernel) (by decide) (fun hb3 => ?_) (fun hb3 => ?_)
  · replace h := zite_t h hb3
    cases h
    exact zret_v Hy.1 Hy.2.2 hE (by decide +kernel)
  · replace h := zite_f h hb3
    obtain ⟨hg2, h⟩ := zgd_inv h
    refine zblq Hy.1 Hy.2.1 [(.aload 0, 1), (.getfield 301, 3), (.iload 1, 1), (.iload 2, 1), (.iastore, 1)] (S' := (16, [(0, .inr (.inr (some (3, 0)))), (1, .inl x1), (2, .inl x2)], [], zfC (cs M1 401 0 (nx x1) x2))) (b := zin x1 7 && true) (by decide +kernel) rfl hg2 ?_
    cases h
    exact zret_v Hy.1 Hy.2.2 hE (by decide +kernel)
theorem m3_change_met {l : Launch} {G : zG} (hG : zGok G) (hcn : zgcn G = zcC) {x1 : Int32} {x2 : Int32} {M : cM} {M' : cM} (h : m3_change x1 x2 M = some M') : zMet l G yX3_change cX3_change 3 (none) 1 22 [.inr (.inr (some (3, 0))), .inl x1, .inl x2] (zfC M) (none) (zfC M') :=
  zMet_of hG tbX3_ok rfl (by decide +kernel) (Nat.le_of_ble_eq_true rfl) (fun X _ Z hA hE => m3_change_ok ⟨Z, hcn, hA⟩ hE x1 x2 M h)
abbrev q11_set : ByteArray × Nat × String × zT := (cX11_set, 4, RX11, tbX11)
def m11_set (x1 : Int32) (x2 : Int32) (M : cM) : Option (Int32 × cM) := zbd (m3_maySet x1 x2 M) (fun r1 M1 => (if r1 = 0 then some ((-3 : Int32), M1) else zbd (m3_setting x1 M1) (fun r2 M2 => zbv (m3_change x1 x2 M2) (fun M3 => some (r2, M3)))))
theorem m11_set_ok {X : zX} {G : zG} (Hy : zHy X G q11_set zcC 2 44 (some .int)) {r : Int32} {M' : cM} (hE : zEnd X G (some (.inl r)) (zfC M')) (x1 : Int32) (x2 : Int32) (M : cM) (h : m11_set x1 x2 M = some (r, M')) : zGo (X, q11_set, G) 0 0 (0, [(0, .inr (.inr (some (11, 0)))), (1, .inl x1), (2, .inl x2)], [], zfC M) := by
  unfold m11_set at h
  refine zblq Hy.1 Hy.2.1 [(.aload 0, 1), (.getfield 1100, 3), (.iload 1, 1), (.iload 2, 1)] (S' := (6, [(0, .inr (.inr (some (11, 0)))), (1, .inl x1), (2, .inl x2)], [.inl x2, .inl x1, .inr (.inr (some (3, 0)))], zfC M)) (b := true) (by decide +kernel) rfl rfl ?_
  obtain ⟨r1, M1, hc1, h⟩ := zbd_inv h
  refine zcallV Hy.1 (as := [.inl x1, .inl x2]) (st := []) (m3_maySet_met (zOK_G Hy.1) Hy.2.1 hc1) cw11_100 m3_maySet_in m3_maySet_se (by decide) (zhlv Hy.2.1 rfl) rfl (zroom Hy.2.2 ⟨by decide, by decide⟩) rfl (by decide +kernel) ⟨Nat.zero_le _, Nat.zero_le _⟩ ?_
  refine zif_ne Hy.1 (off := 6) (tgt := 15) (by decide +kernel) (by decide) (fun hb4 => ?_) (fun hb4 => ?_)
  · replace h := zite_f h hb4
    refine zblq Hy.1 Hy.2.1 [(.aload 0, 1), (.getfield 1100, 3), (.iload 1, 1)] (S' := (20, [(0, .inr (.inr (some (11, 0)))), (1, .inl x1), (2, .inl x2)], [.inl x1, .inr (.inr (some (3, 0)))], zfC M1)) (b := true) (by decide +kernel) rfl rfl ?_
    obtain ⟨r2, M2, hc2, h⟩ := zbd_inv h
    refine zcallV Hy.1 (as := [.inl x1]) (st := []) (m3_setting_met (zOK_G Hy.1) Hy.2.1 hc2) cw11_104 m3_setting_in m3_setting_se (by decide) (zhlv Hy.2.1 rfl) rfl (zroom Hy.2.2 ⟨by decide, by decide⟩) rfl (by decide +kernel) ⟨Nat.zero_le _, Nat.zero_le _⟩ ?_
    refine zblq Hy.1 Hy.2.1 [(.istore 3, 1), (.aload 0, 1), (.getfield 1100, 3), (.iload 1, 1), (.iload 2, 1)] (S' := (30, [(0, .inr (.inr (some (11, 0)))), (1, .inl x1), (2, .inl x2), (3, .inl r2)], [.inl x2, .inl x1, .inr (.inr (some (3, 0)))], zfC M2)) (b := true) (by decide +kernel) rfl rfl ?_
    obtain ⟨M3, hc3, h⟩ := zbv_inv h
    refine zcallV Hy.1 (as := [.inl x1, .inl x2]) (st := []) (m3_change_met (zOK_G Hy.1) Hy.2.1 hc3) cw11_108 m3_change_in m3_change_se (by decide) (zhlv Hy.2.1 rfl) rfl (zroom Hy.2.2 ⟨by decide, by decide⟩) rfl (by decide +kernel) ⟨Nat.zero_le _, Nat.zero_le _⟩ ?_
    refine zblq Hy.1 Hy.2.1 [(.iload 3, 1)] (S' := (34, [(0, .inr (.inr (some (11, 0)))), (1, .inl x1), (2, .inl x2), (3, .inl r2)], [.inl r2], zfC M3)) (b := true) (by decide +kernel) rfl rfl ?_
    cases h
    exact zret_i Hy.1 Hy.2.2 hE (by decide +kernel)
  · replace h := zite_t h hb4
    refine zblq Hy.1 Hy.2.1 [(.iconst (-3), 2)] (S' := (14, [(0, .inr (.inr (some (11, 0)))), (1, .inl x1), (2, .inl x2)], [.inl (-3 : Int32)], zfC M1)) (b := true) (by decide +kernel) rfl rfl ?_
    cases h
    exact zret_i Hy.1 Hy.2.2 hE (by decide +kernel)
theorem m11_set_met {l : Launch} {G : zG} (hG : zGok G) (hcn : zgcn G = zcC) {x1 : Int32} {x2 : Int32} {M : cM} {r : Int32} {M' : cM} (h : m11_set x1 x2 M = some (r, M')) : zMet l G yX11_set cX11_set 4 (some .int) 2 44 [.inr (.inr (some (11, 0))), .inl x1, .inl x2] (zfC M) (some (.inl r)) (zfC M') :=
  zMet_of hG tbX11_ok rfl (by decide +kernel) (Nat.le_of_ble_eq_true rfl) (fun X _ Z hA hE => m11_set_ok ⟨Z, hcn, hA⟩ hE x1 x2 M h)
abbrev q11_power : ByteArray × Nat × String × zT := (cX11_power, 5, RX11, tbX11)
def m11_power (x1 : Int32) (x2 : Int32) (M : cM) : Option (Int32 × cM) := zbd (m3_knows x1 M) (fun r1 M1 => (if r1 = 0 then some ((-2 : Int32), M1) else zbd (m11_outside x2 (0 : Int32) (30000 : Int32) M1) (fun r2 M2 => (if r2 = 0 then zbd (m3_of x1 M2) (fun r3 M3 => zgd (Nat.blt r3 10 && ((Nat.blt r3 10 && true) && true)) (some (cg M3 2 r3 2, cs M3 2 r3 2 x2))) else some ((-3 : Int32), M2)))))
theorem m11_power_ok {X : zX} {G : zG} (Hy : zHy X G q11_power zcC 1 22 (some .int)) {r : Int32} {M' : cM} (hE : zEnd X G (some (.inl r)) (zfC M')) (x1 : Int32) (x2 : Int32) (M : cM) (h : m11_power x1 x2 M = some (r, M')) : zGo (X, q11_power, G) 0 0 (0, [(0, .inr (.inr (some (11, 0)))), (1, .inl x1), (2, .inl x2)], [], zfC M) := by
  unfold m11_power at h
  refine zblq Hy.1 Hy.2.1 [(.aload 0, 1), (.getfield 1100, 3), (.iload 1, 1)] (S' := (5, [(0, .inr (.inr (some (11, 0)))), (1, .inl x1), (2, .inl x2)], [.inl x1, .inr (.inr (some (3, 0)))], zfC M)) (b := true) (by decide +kernel) rfl rfl ?_
  obtain ⟨r1, M1, hc1, h⟩ := zbd_inv h
  refine zcallV Hy.1 (as := [.inl x1]) (st := []) (m3_knows_met (zOK_G Hy.1) Hy.2.1 hc1) cw11_74 m3_knows_in m3_knows_se (by decide) (zhlv Hy.2.1 rfl) rfl (zroom Hy.2.2 ⟨by decide, by decide⟩) rfl (by decide +kernel) ⟨Nat.zero_le _, Nat.zero_le _⟩ ?_
  refine zif_ne Hy.1 (off := 6) (tgt := 14) (by decide +kernel) (by decide) (fun hb6 => ?_) (fun hb6 => ?_)
  · replace h := zite_f h hb6
    refine zblq Hy.1 Hy.2.1 [(.iload 2, 1), (.iconst 0, 1), (.iconst 30000, 3)] (S' := (19, [(0, .inr (.inr (some (11, 0)))), (1, .inl x1), (2, .inl x2)], [.inl (30000 : Int32), .inl (0 : Int32), .inl x2], zfC M1)) (b := true) (by decide +kernel) rfl rfl ?_
    obtain ⟨r2, M2, hc2, h⟩ := zbd_inv h
    refine zcallS Hy.1 (as := [.inl x2, .inl (0 : Int32), .inl (30000 : Int32)]) (st := []) (m11_outside_met (zOK_G Hy.1) Hy.2.1 hc2) cw11_66 m11_outside_in rfl (zroom Hy.2.2 ⟨by decide, by decide⟩) rfl (by decide +kernel) ⟨Nat.zero_le _, Nat.zero_le _⟩ ?_
    refine zif_eq Hy.1 (off := 6) (tgt := 28) (by decide +kernel) (by decide) (fun hb5 => ?_) (fun hb5 => ?_)
    · replace h := zite_t h hb5
      refine zblq Hy.1 Hy.2.1 [(.aload 0, 1), (.getfield 1100, 3), (.iload 1, 1)] (S' := (33, [(0, .inr (.inr (some (11, 0)))), (1, .inl x1), (2, .inl x2)], [.inl x1, .inr (.inr (some (3, 0)))], zfC M2)) (b := true) (by decide +kernel) rfl rfl ?_
      obtain ⟨r3, M3, hc3, h⟩ := zbd_inv h
      refine zcallV Hy.1 (as := [.inl x1]) (st := []) (m3_of_met (zOK_G Hy.1) Hy.2.1 hc3) cw11_78 m3_of_in m3_of_se (by decide) (zhlv Hy.2.1 rfl) rfl (zroom Hy.2.2 ⟨by decide, by decide⟩) rfl (by decide +kernel) ⟨Nat.zero_le _, Nat.zero_le _⟩ ?_
      obtain ⟨hg4, h⟩ := zgd_inv h
      refine zblq Hy.1 Hy.2.1 [(.astore 3, 1), (.aload 3, 1), (.multianewarray 2 2, 3), (.istore 4, 2), (.aload 3, 1), (.iload 2, 1), (.invokeinterface 2 2, 3), (.iload 4, 2)] (S' := (50, [(0, .inr (.inr (some (11, 0)))), (1, .inl x1), (2, .inl x2), (3, .inr (.inr (some (2, r3)))), (4, .inl (cg M3 2 r3 2))], [.inl (cg M3 2 r3 2)], zfC (cs M3 2 r3 2 x2))) (b := Nat.blt r3 10 && ((Nat.blt r3 10 && true) && true)) (by decide +kernel) rfl hg4 ?_
      cases h
      exact zret_i Hy.1 Hy.2.2 hE (by decide +kernel)
    · replace h := zite_f h hb5
      refine zblq Hy.1 Hy.2.1 [(.iconst (-3), 2)] (S' := (27, [(0, .inr (.inr (some (11, 0)))), (1, .inl x1), (2, .inl x2)], [.inl (-3 : Int32)], zfC M2)) (b := true) (by decide +kernel) rfl rfl ?_
      cases h
      exact zret_i Hy.1 Hy.2.2 hE (by decide +kernel)
  · replace h := zite_t h hb6
    refine zblq Hy.1 Hy.2.1 [(.iconst (-2), 2)] (S' := (13, [(0, .inr (.inr (some (11, 0)))), (1, .inl x1), (2, .inl x2)], [.inl (-2 : Int32)], zfC M1)) (b := true) (by decide +kernel) rfl rfl ?_
    cases h
    exact zret_i Hy.1 Hy.2.2 hE (by decide +kernel)
theorem m11_power_met {l : Launch} {G : zG} (hG : zGok G) (hcn : zgcn G = zcC) {x1 : Int32} {x2 : Int32} {M : cM} {r : Int32} {M' : cM} (h : m11_power x1 x2 M = some (r, M')) : zMet l G yX11_power cX11_power 5 (some .int) 1 22 [.inr (.inr (some (11, 0))), .inl x1, .inl x2] (zfC M) (some (.inl r)) (zfC M') :=
  zMet_of hG tbX11_ok rfl (by decide +kernel) (Nat.le_of_ble_eq_true rfl) (fun X _ Z hA hE => m11_power_ok ⟨Z, hcn, hA⟩ hE x1 x2 M h)
abbrev q2_isDead : ByteArray × Nat × String × zT := (cX2_isDead, 1, RX2, tbX2)
def m2_isDead (i0 : Nat) (M : cM) : Option (Int32 × cM) := zgd (Nat.blt i0 10 && true) ((if 0 < (cg M 2 i0 2) then some ((0 : Int32), M) else some ((1 : Int32), M)))
theorem m2_isDead_ok {X : zX} {G : zG} (Hy : zHy X G q2_isDead zcC 0 0 (some .boolean)) {r : Int32} {M' : cM} (hE : zEnd X G (some (.inl r)) (zfC M')) (i0 : Nat) (M : cM) (h : m2_isDead i0 M = some (r, M')) : zGo (X, q2_isDead, G) 0 0 (0, [(0, .inr (.inr (some (2, i0))))], [], zfC M) := by
  unfold m2_isDead at h
  obtain ⟨hg1, h⟩ := zgd_inv h
  refine zblq Hy.1 Hy.2.1 [(.aload 0, 1), (.multianewarray 2 2, 3)] (S' := (4, [(0, .inr (.inr (some (2, i0))))], [.inl (cg M 2 i0 2)], zfC M)) (b := Nat.blt i0 10 && true) (by decide +kernel) rfl hg1 ?_
  refine zif_gt Hy.1 (off := 7) (tgt := 11) (by decide +kernel) (by decide) (fun hb2 => ?_) (fun hb2 => ?_)
  · replace h := zite_t h hb2
    refine zblq Hy.1 Hy.2.1 [(.iconst 0, 1)] (S' := (12, [(0, .inr (.inr (some (2, i0))))], [.inl (0 : Int32)], zfC M)) (b := true) (by decide +kernel) rfl rfl ?_
    cases h
    exact zret_z Hy.1 Hy.2.2 (by decide) hE (by decide +kernel)
  · replace h := zite_f h hb2
    refine zblq Hy.1 Hy.2.1 [(.iconst 1, 1), (.ldc 12, 3)] (S' := (12, [(0, .inr (.inr (some (2, i0))))], [.inl (1 : Int32)], zfC M)) (b := true) (by decide +kernel) rfl rfl ?_
    cases h
    exact zret_z Hy.1 Hy.2.2 (by decide) hE (by decide +kernel)
theorem m2_isDead_met {l : Launch} {G : zG} (hG : zGok G) (hcn : zgcn G = zcC) {i0 : Nat} {M : cM} {r : Int32} {M' : cM} (h : m2_isDead i0 M = some (r, M')) : zMet l G yX2_isDead cX2_isDead 1 (some .boolean) 0 0 [.inr (.inr (some (2, i0)))] (zfC M) (some (.inl r)) (zfC M') :=
  zMet_of hG tbX2_ok rfl (by decide +kernel) (Nat.le_of_ble_eq_true rfl) (fun X _ Z hA hE => m2_isDead_ok ⟨Z, hcn, hA⟩ hE i0 M h)
abbrev q2_countNow : ByteArray × Nat × String × zT := (cX2_countNow, 1, RX2, tbX2)
def m2_countNow (i0 : Nat) (M : cM) : Option (Int32 × cM) := zgd (Nat.blt i0 10 && true) ((if (cg M 2 i0 0) = 0 then zgd (Nat.blt i0 10) (zbd (m2_isDead i0 M) (fun r2 M2 => (if r2 = 0 then some ((0 : Int32), M2) else some ((-1 : Int32), M2)))) else zgd (Nat.blt i0 10 && true) (some (cg M 2 i0 8, M))))
theorem m2_countNow_ok {X : zX} {G : zG} (Hy : zHy X G q2_countNow zcC 1 20 (some .int)) {r : Int32} {M' : cM} (hE : zEnd X G (some (.inl r)) (zfC M')) (i0 : Nat) (M : cM) (h : m2_countNow i0 M = some (r, M')) : zGo (X, q2_countNow, G) 0 0 (0, [(0, .inr (.inr (some (2, i0))))], [], zfC M) := by
  unfold m2_countNow at h
  obtain ⟨hg1, h⟩ := zgd_inv h
  refine zblq Hy.1 Hy.2.1 [(.aload 0, 1), (.multianewarray 2 0, 3)] (S' := (4, [(0, .inr (.inr (some (2, i0))))], [.inl (cg M 2 i0 0)], zfC M)) (b := Nat.blt i0 10 && true) (by decide +kernel) rfl hg1 ?_
  refine zif_eq Hy.1 (off := 8) (tgt := 12) (by decide +kernel) (by decide) (fun hb6 => ?_) (fun hb6 => ?_)
  · replace h := zite_t h hb6
    refine zblq Hy.1 Hy.2.1 [(.aload 0, 1)] (S' := (13, [(0, .inr (.inr (some (2, i0))))], [.inr (.inr (some (2, i0)))], zfC M)) (b := true) (by decide +kernel) rfl rfl ?_
    obtain ⟨hg3, h⟩ := zgd_inv h
    obtain ⟨r2, M2, hc2, h⟩ := zbd_inv h
    refine zcallV Hy.1 (as := []) (st := []) (m2_isDead_met (zOK_G Hy.1) Hy.2.1 hc2) cw2_84 m2_isDead_in m2_isDead_se (by decide) (zhlv Hy.2.1 hg3) rfl (zroom Hy.2.2 ⟨by decide, by decide⟩) rfl (by decide +kernel) ⟨Nat.zero_le _, Nat.zero_le _⟩ ?_
    refine zif_eq Hy.1 (off := 7) (tgt := 23) (by decide +kernel) (by decide) (fun hb4 => ?_) (fun hb4 => ?_)
    · replace h := zite_t h hb4
      refine zblq Hy.1 Hy.2.1 [(.iconst 0, 1)] (S' := (24, [(0, .inr (.inr (some (2, i0))))], [.inl (0 : Int32)], zfC M2)) (b := true) (by decide +kernel) rfl rfl ?_
      cases h
      exact zret_i Hy.1 Hy.2.2 hE (by decide +kernel)
    · replace h := zite_f h hb4
      refine zblq Hy.1 Hy.2.1 [(.iconst (-1), 1), (.ldc 24, 3)] (S' := (24, [(0, .inr (.inr (some (2, i0))))], [.inl (-1 : Int32)], zfC M2)) (b := true) (by decide +kernel) rfl rfl ?_
      cases h
      exact zret_i Hy.1 Hy.2.2 hE (by decide +kernel)
  · replace h := zite_f h hb6
    obtain ⟨hg5, h⟩ := zgd_inv h
    refine zblq Hy.1 Hy.2.1 [(.aload 0, 1), (.multianewarray 2 8, 3)] (S' := (11, [(0, .inr (.inr (some (2, i0))))], [.inl (cg M 2 i0 8)], zfC M)) (b := Nat.blt i0 10 && true) (by decide +kernel) rfl hg5 ?_
    cases h
    exact zret_i Hy.1 Hy.2.2 hE (by decide +kernel)
theorem m2_countNow_met {l : Launch} {G : zG} (hG : zGok G) (hcn : zgcn G = zcC) {i0 : Nat} {M : cM} {r : Int32} {M' : cM} (h : m2_countNow i0 M = some (r, M')) : zMet l G yX2_countNow cX2_countNow 1 (some .int) 1 20 [.inr (.inr (some (2, i0)))] (zfC M) (some (.inl r)) (zfC M') :=
  zMet_of hG tbX2_ok rfl (by decide +kernel) (Nat.le_of_ble_eq_true rfl) (fun X _ Z hA hE => m2_countNow_ok ⟨Z, hcn, hA⟩ hE i0 M h)
abbrev q2_localHour : ByteArray × Nat × String × zT := (cX2_localHour, 2, RX2, tbX2)
def m2_localHour (i0 : Nat) (x1 : Int32) (M : cM) : Option (Int32 × cM) := zgd (Nat.blt i0 10 && (znz (100 : Int32) && (Nat.blt i0 10 && true))) (some ((x1 + (((cg M 2 i0 5) * x1) / (100 : Int32))) + (cg M 2 i0 6), M))
theorem m2_localHour_ok {X : zX} {G : zG} (Hy : zHy X G q2_localHour zcC 0 0 (some .int)) {r : Int32} {M' : cM} (hE : zEnd X G (some (.inl r)) (zfC M')) (i0 : Nat) (x1 : Int32) (M : cM) (h : m2_localHour i0 x1 M = some (r, M')) : zGo (X, q2_localHour, G) 0 0 (0, [(0, .inr (.inr (some (2, i0)))), (1, .inl x1)], [], zfC M) := by
  unfold m2_localHour at h
  obtain ⟨hg1, h⟩ := zgd_inv h
  refine zblq Hy.1 Hy.2.1 [(.iload 1, 1), (.aload 0, 1), (.multianewarray 2 5, 3), (.iload 1, 1), (.imul, 1), (.iconst 100, 2), (.idiv, 1), (.iadd, 1), (.aload 0, 1), (.multianewarray 2 6, 3), (.iadd, 1)] (S' := (16, [(0, .inr (.inr (some (2, i0)))), (1, .inl x1)], [.inl ((x1 + (((cg M 2 i0 5) * x1) / (100 : Int32))) + (cg M 2 i0 6))], zfC M)) (b := Nat.blt i0 10 && (znz (100 : Int32) && (Nat.blt i0 10 && true))) (by decide +kernel) rfl hg1 ?_
  cases h
  exact zret_i Hy.1 Hy.2.2 hE (by decide +kernel)
theorem m2_localHour_met {l : Launch} {G : zG} (hG : zGok G) (hcn : zgcn G = zcC) {i0 : Nat} {x1 : Int32} {M : cM} {r : Int32} {M' : cM} (h : m2_localHour i0 x1 M = some (r, M')) : zMet l G yX2_localHour cX2_localHour 2 (some .int) 0 0 [.inr (.inr (some (2, i0))), .inl x1] (zfC M) (some (.inl r)) (zfC M') :=
  zMet_of hG tbX2_ok rfl (by decide +kernel) (Nat.le_of_ble_eq_true rfl) (fun X _ Z hA hE => m2_localHour_ok ⟨Z, hcn, hA⟩ hE i0 x1 M h)
abbrev qJ9_floorMod : ByteArray × Nat × String × zT := (cJ9_floorMod_7cf53, 3, RJ9, tbJ9)
def mJ9_floorMod (x0 : Int32) (x1 : Int32) (M : cM) : Option (Int32 × cM) := zgd (znz x1 && true) ((if 0 ≤ (x0 ^^^ x1) then some (zrem x0 x1, M) else (if (zrem x0 x1) = 0 then some (zrem x0 x1, M) else some ((zrem x0 x1) + x1, M))))
theorem mJ9_floorMod_ok {X : zX} {G : zG} (Hy : zHy X G qJ9_floorMod zcC 0 0 (some .int)) {r : Int32} {M' : cM} (hE : zEnd X G (some (.inl r)) (zfC M')) (x0 : Int32) (x1 : Int32) (M : cM) (h : mJ9_floorMod x0 x1 M = some (r, M')) : zGo (X, qJ9_floorMod, G) 0 0 (0, [(0, .inl x0), (1, .inl x1)], [], zfC M) := by
  unfold mJ9_floorMod at h
  obtain ⟨hg1, h⟩ := zgd_inv h
  refine zblq Hy.1 Hy.2.1 [(.iload 0, 1), (.iload 1, 1), (.irem, 1), (.istore 2, 1), (.iload 0, 1), (.iload 1, 1), (.ixor, 1)] (S' := (7, [(0, .inl x0), (1, .inl x1), (2, .inl (zrem x0 x1))], [.inl (x0 ^^^ x1)], zfC M)) (b := znz x1 && true) (by decide +kernel) rfl hg1 ?_
  refine zif_ge Hy.1 (off := 11) (tgt := 18) (by decide +kernel) (by decide) (fun hb3 => ?_) (fun hb3 => ?_)
  · replace h := zite_t h hb3
    refine zblq Hy.1 Hy.2.1 [(.iload 2, 1)] (S' := (19, [(0, .inl x0), (1, .inl x1), (2, .inl (zrem x0 x1))], [.inl (zrem x0 x1)], zfC M)) (b := true) (by decide +kernel) rfl rfl ?_
    cases h
    exact zret_i Hy.1 Hy.2.2 hE (by decide +kernel)
  · replace h := zite_f h hb3
    refine zblq Hy.1 Hy.2.1 [(.iload 2, 1)] (S' := (11, [(0, .inl x0), (1, .inl x1), (2, .inl (zrem x0 x1))], [.inl (zrem x0 x1)], zfC M)) (b := true) (by decide +kernel) rfl rfl ?_
    refine zif_eq Hy.1 (off := 7) (tgt := 18) (by decide +kernel) (by decide) (fun hb2 => ?_) (fun hb2 => ?_)
    · replace h := zite_t h hb2
      refine zblq Hy.1 Hy.2.1 [(.iload 2, 1)] (S' := (19, [(0, .inl x0), (1, .inl x1), (2, .inl (zrem x0 x1))], [.inl (zrem x0 x1)], zfC M)) (b := true) (by decide +kernel) rfl rfl ?_
      cases h
      exact zret_i Hy.1 Hy.2.2 hE (by decide +kernel)
    · replace h := zite_f h hb2
      refine zblq Hy.1 Hy.2.1 [(.iload 2, 1), (.iload 1, 1), (.iadd, 1)] (S' := (17, [(0, .inl x0), (1, .inl x1), (2, .inl (zrem x0 x1))], [.inl ((zrem x0 x1) + x1)], zfC M)) (b := true) (by decide +kernel) rfl rfl ?_
      cases h
      exact zret_i Hy.1 Hy.2.2 hE (by decide +kernel)
theorem mJ9_floorMod_met {l : Launch} {G : zG} (hG : zGok G) (hcn : zgcn G = zcC) {x0 : Int32} {x1 : Int32} {M : cM} {r : Int32} {M' : cM} (h : mJ9_floorMod x0 x1 M = some (r, M')) : zMet l G yJ9_floorMod_7cf53 cJ9_floorMod_7cf53 3 (some .int) 0 0 [.inl x0, .inl x1] (zfC M) (some (.inl r)) (zfC M') :=
  zMet_ofF hG tbJ9_ok rfl (by decide +kernel) (Nat.le_of_ble_eq_true rfl) (fun X _ Z hA hE => mJ9_floorMod_ok ⟨Z, hcn, hA⟩ hE x0 x1 M h)
abbrev q2_rowWakes : ByteArray × Nat × String × zT := (cX2_rowWakes, 2, RX2, tbX2)
def m2_rowWakes (i0 : Nat) (x1 : Int32) (M : cM) : Option (Int32 × cM) := zgd (Nat.blt i0 10 && true) ((if (1 : Int32) ≤ (cg M 2 i0 3) then zgd (Nat.blt i0 10 && true) (zgd (Nat.blt i0 10) (zbd (m2_localHour i0 x1 M) (fun r3 M3 => zgd (Nat.blt i0 10 && true) (zbd (mJ9_floorMod r3 (cg M3 2 i0 3) M3) (fun r6 M6 => (if ((zshr (cg M 2 i0 4) r6) &&& (1 : Int32)) = (1 : Int32) then some ((1 : Int32), M6) else some ((0 : Int32), M6))))))) else some ((0 : Int32), M)))
theorem m2_rowWakes_ok {X : zX} {G : zG} (Hy : zHy X G q2_rowWakes zcC 1 22 (some .boolean)) {r : Int32} {M' : cM} (hE : zEnd X G (some (.inl r)) (zfC M')) (i0 : Nat) (x1 : Int32) (M : cM) (h : m2_rowWakes i0 x1 M = some (r, M')) : zGo (X, q2_rowWakes, G) 0 0 (0, [(0, .inr (.inr (some (2, i0)))), (1, .inl x1)], [], zfC M) := by
  unfold m2_rowWakes at h
  obtain ⟨hg1, h⟩ := zgd_inv h
  refine zblq Hy.1 Hy.2.1 [(.aload 0, 1), (.multianewarray 2 3, 3), (.iconst 1, 1)] (S' := (5, [(0, .inr (.inr (some (2, i0)))), (1, .inl x1)], [.inl (1 : Int32), .inl (cg M 2 i0 3)], zfC M)) (b := Nat.blt i0 10 && true) (by decide +kernel) rfl hg1 ?_
  refine zic_ge Hy.1 (off := 5) (tgt := 10) (by decide +kernel) (by decide) (fun hb8 => ?_) (fun hb8 => ?_)
  · replace h := zite_t h hb8
    obtain ⟨hg2, h⟩ := zgd_inv h
    refine zblq Hy.1 Hy.2.1 [(.aload 0, 1), (.multianewarray 2 4, 3), (.aload 0, 1), (.iload 1, 1)] (S' := (16, [(0, .inr (.inr (some (2, i0)))), (1, .inl x1)], [.inl x1, .inr (.inr (some (2, i0))), .inl (cg M 2 i0 4)], zfC M)) (b := Nat.blt i0 10 && true) (by decide +kernel) rfl hg2 ?_
    obtain ⟨hg4, h⟩ := zgd_inv h
    obtain ⟨r3, M3, hc3, h⟩ := zbd_inv h
    refine zcallV Hy.1 (as := [.inl x1]) (st := [.inl (cg M 2 i0 4)]) (m2_localHour_met (zOK_G Hy.1) Hy.2.1 hc3) cw2_77 m2_localHour_in m2_localHour_se (by decide) (zhlv Hy.2.1 hg4) rfl (zroom Hy.2.2 ⟨by decide, by decide⟩) rfl (by decide +kernel) ⟨Nat.zero_le _, Nat.zero_le _⟩ ?_
    obtain ⟨hg5, h⟩ := zgd_inv h
    refine zblq Hy.1 Hy.2.1 [(.aload 0, 1), (.multianewarray 2 3, 3)] (S' := (23, [(0, .inr (.inr (some (2, i0)))), (1, .inl x1)], [.inl (cg M3 2 i0 3), .inl r3, .inl (cg M 2 i0 4)], zfC M3)) (b := Nat.blt i0 10 && true) (by decide +kernel) rfl hg5 ?_
    obtain ⟨r6, M6, hc6, h⟩ := zbd_inv h
    refine zcallS Hy.1 (as := [.inl r3, .inl (cg M3 2 i0 3)]) (st := [.inl (cg M 2 i0 4)]) (mJ9_floorMod_met (zOK_G Hy.1) Hy.2.1 hc6) cw2_81 mJ9_floorMod_in rfl (zroom Hy.2.2 ⟨by decide, by decide⟩) rfl (by decide +kernel) ⟨Nat.zero_le _, Nat.zero_le _⟩ ?_
    refine zblq Hy.1 Hy.2.1 [(.ishr, 1), (.iconst 1, 1), (.iand, 1), (.iconst 1, 1)] (S' := (30, [(0, .inr (.inr (some (2, i0)))), (1, .inl x1)], [.inl (1 : Int32), .inl ((zshr (cg M 2 i0 4) r6) &&& (1 : Int32))], zfC M6)) (b := true) (by decide +kernel) rfl rfl ?_
    refine zic_ne Hy.1 (off := 7) (tgt := 37) (by decide +kernel) (by decide) (fun hb7 => ?_) (fun hb7 => ?_)
    · replace h := zite_f h hb7
      refine zblq Hy.1 Hy.2.1 [(.iconst 0, 1)] (S' := (38, [(0, .inr (.inr (some (2, i0)))), (1, .inl x1)], [.inl (0 : Int32)], zfC M6)) (b := true) (by decide +kernel) rfl rfl ?_
      cases h
      exact zret_z Hy.1 Hy.2.2 (by decide) hE (by decide +kernel)
    · replace h := zite_t h hb7
      refine zblq Hy.1 Hy.2.1 [(.iconst 1, 1), (.ldc 38, 3)] (S' := (38, [(0, .inr (.inr (some (2, i0)))), (1, .inl x1)], [.inl (1 : Int32)], zfC M6)) (b := true) (by decide +kernel) rfl rfl ?_
      cases h
      exact zret_z Hy.1 Hy.2.2 (by decide) hE (by decide +kernel)
  · replace h := zite_f h hb8
    refine zblq Hy.1 Hy.2.1 [(.iconst 0, 1)] (S' := (9, [(0, .inr (.inr (some (2, i0)))), (1, .inl x1)], [.inl (0 : Int32)], zfC M)) (b := true) (by decide +kernel) rfl rfl ?_
    cases h
    exact zret_z Hy.1 Hy.2.2 (by decide) hE (by decide +kernel)
theorem m2_rowWakes_met {l : Launch} {G : zG} (hG : zGok G) (hcn : zgcn G = zcC) {i0 : Nat} {x1 : Int32} {M : cM} {r : Int32} {M' : cM} (h : m2_rowWakes i0 x1 M = some (r, M')) : zMet l G yX2_rowWakes cX2_rowWakes 2 (some .boolean) 1 22 [.inr (.inr (some (2, i0))), .inl x1] (zfC M) (some (.inl r)) (zfC M') :=
  zMet_of hG tbX2_ok rfl (by decide +kernel) (Nat.le_of_ble_eq_true rfl) (fun X _ Z hA hE => m2_rowWakes_ok ⟨Z, hcn, hA⟩ hE i0 x1 M h)
abbrev q2_isAwake : ByteArray × Nat × String × zT := (cX2_isAwake, 2, RX2, tbX2)
def m2_isAwake (i0 : Nat) (x1 : Int32) (M : cM) : Option (Int32 × cM) := zgd (Nat.blt i0 10) (zbd (m2_isDead i0 M) (fun r1 M1 => (if r1 = 0 then zgd (Nat.blt i0 10) (zbd (m2_rowWakes i0 x1 M1) (fun r3 M3 => (if r3 = 0 then some ((0 : Int32), M3) else some ((1 : Int32), M3)))) else some ((0 : Int32), M1))))
theorem m2_isAwake_ok {X : zX} {G : zG} (Hy : zHy X G q2_isAwake zcC 2 43 (some .boolean)) {r : Int32} {M' : cM} (hE : zEnd X G (some (.inl r)) (zfC M')) (i0 : Nat) (x1 : Int32) (M : cM) (h : m2_isAwake i0 x1 M = some (r, M')) : zGo (X, q2_isAwake, G) 0 0 (0, [(0, .inr (.inr (some (2, i0)))), (1, .inl x1)], [], zfC M) := by
  unfold m2_isAwake at h
  refine zblq Hy.1 Hy.2.1 [(.aload 0, 1)] (S' := (1, [(0, .inr (.inr (some (2, i0)))), (1, .inl x1)], [.inr (.inr (some (2, i0)))], zfC M)) (b := true) (by decide +kernel) rfl rfl ?_
  obtain ⟨hg2, h⟩ := zgd_inv h
  obtain ⟨r1, M1, hc1, h⟩ := zbd_inv h
  refine zcallV Hy.1 (as := []) (st := []) (m2_isDead_met (zOK_G Hy.1) Hy.2.1 hc1) cw2_84 m2_isDead_in m2_isDead_se (by decide) (zhlv Hy.2.1 hg2) rfl (zroom Hy.2.2 ⟨by decide, by decide⟩) rfl (by decide +kernel) ⟨Nat.zero_le _, Nat.zero_le _⟩ ?_
  refine zif_ne Hy.1 (off := 15) (tgt := 19) (by decide +kernel) (by decide) (fun hb6 => ?_) (fun hb6 => ?_)
  · replace h := zite_f h hb6
    refine zblq Hy.1 Hy.2.1 [(.iconst 0, 1)] (S' := (20, [(0, .inr (.inr (some (2, i0)))), (1, .inl x1)], [.inl (0 : Int32)], zfC M1)) (b := true) (by decide +kernel) rfl rfl ?_
    cases h
    exact zret_z Hy.1 Hy.2.2 (by decide) hE (by decide +kernel)
  · replace h := zite_t h hb6
    refine zblq Hy.1 Hy.2.1 [(.aload 0, 1), (.iload 1, 1)] (S' := (9, [(0, .inr (.inr (some (2, i0)))), (1, .inl x1)], [.inl x1, .inr (.inr (some (2, i0)))], zfC M1)) (b := true) (by decide +kernel) rfl rfl ?_
    obtain ⟨hg4, h⟩ := zgd_inv h
    obtain ⟨r3, M3, hc3, h⟩ := zbd_inv h
    refine zcallV Hy.1 (as := [.inl x1]) (st := []) (m2_rowWakes_met (zOK_G Hy.1) Hy.2.1 hc3) cw2_88 m2_rowWakes_in m2_rowWakes_se (by decide) (zhlv Hy.2.1 hg4) rfl (zroom Hy.2.2 ⟨by decide, by decide⟩) rfl (by decide +kernel) ⟨Nat.zero_le _, Nat.zero_le _⟩ ?_
    refine zif_eq Hy.1 (off := 7) (tgt := 19) (by decide +kernel) (by decide) (fun hb5 => ?_) (fun hb5 => ?_)
    · replace h := zite_t h hb5
      refine zblq Hy.1 Hy.2.1 [(.iconst 0, 1)] (S' := (20, [(0, .inr (.inr (some (2, i0)))), (1, .inl x1)], [.inl (0 : Int32)], zfC M3)) (b := true) (by decide +kernel) rfl rfl ?_
      cases h
      exact zret_z Hy.1 Hy.2.2 (by decide) hE (by decide +kernel)
    · replace h := zite_f h hb5
      refine zblq Hy.1 Hy.2.1 [(.iconst 1, 1), (.ldc 20, 3)] (S' := (20, [(0, .inr (.inr (some (2, i0)))), (1, .inl x1)], [.inl (1 : Int32)], zfC M3)) (b := true) (by decide +kernel) rfl rfl ?_
      cases h
      exact zret_z Hy.1 Hy.2.2 (by decide) hE (by decide +kernel)
theorem m2_isAwake_met {l : Launch} {G : zG} (hG : zGok G) (hcn : zgcn G = zcC) {i0 : Nat} {x1 : Int32} {M : cM} {r : Int32} {M' : cM} (h : m2_isAwake i0 x1 M = some (r, M')) : zMet l G yX2_isAwake cX2_isAwake 2 (some .boolean) 2 43 [.inr (.inr (some (2, i0))), .inl x1] (zfC M) (some (.inl r)) (zfC M') :=
  zMet_of hG tbX2_ok rfl (by decide +kernel) (Nat.le_of_ble_eq_true rfl) (fun X _ Z hA hE => m2_isAwake_ok ⟨Z, hcn, hA⟩ hE i0 x1 M h)
abbrev q11_at : ByteArray × Nat × String × zT := (cX11_at, 4, RX11, tbX11)
def m11_at (x1 : Int32) (x2 : Int32) (M : cM) : Option (Int32 × cM) := zbd (m3_knows x1 M) (fun r1 M1 => (if r1 = 0 then some ((-2 : Int32), M1) else zbd (m3_of x1 M1) (fun r2 M2 => (if x2 = 0 then zgd (Nat.blt r2 10 && true) (some (cg M2 2 r2 2, M2)) else (if x2 = 1 then zgd (Nat.blt r2 10) (zbd (m2_countNow r2 M2) (fun r5 M5 => some (r5, M5))) else (if x2 = 2 then zgd (Nat.blt r2 10 && true) (some (cg M2 2 r2 7, M2)) else (if x2 = 3 then zgd (Nat.blt r2 10) (zbd (m2_localHour r2 (cg M2 3 0 5) M2) (fun r8 M8 => some (r8, M8))) else (if x2 = 4 then zgd (Nat.blt r2 10) (zbd (m2_isAwake r2 (cg M2 3 0 5) M2) (fun r10 M10 => (if r10 = 0 then some ((0 : Int32), M10) else some ((1 : Int32), M10)))) else (if x2 = 5 then zgd (Nat.blt r2 10 && (Nat.blt r2 10 && true)) (some (cg M2 8 r2 2, M2)) else (some ((-3 : Int32), M2)))))))))))
theorem m11_at_ok {X : zX} {G : zG} (Hy : zHy X G q11_at zcC 3 64 (some .int)) {r : Int32} {M' : cM} (hE : zEnd X G (some (.inl r)) (zfC M')) (x1 : Int32) (x2 : Int32) (M : cM) (h : m11_at x1 x2 M = some (r, M')) : zGo (X, q11_at, G) 0 0 (0, [(0, .inr (.inr (some (11, 0)))), (1, .inl x1), (2, .inl x2)], [], zfC M) := by
  unfold m11_at at h
  refine zblq Hy.1 Hy.2.1 [(.aload 0, 1), (.getfield 1100, 3), (.iload 1, 1)] (S' := (5, [(0, .inr (.inr (some (11, 0)))), (1, .inl x1), (2, .inl x2)], [.inl x1, .inr (.inr (some (3, 0)))], zfC M)) (b := true) (by decide +kernel) rfl rfl ?_
  obtain ⟨r1, M1, hc1, h⟩ := zbd_inv h
  refine zcallV Hy.1 (as := [.inl x1]) (st := []) (m3_knows_met (zOK_G Hy.1) Hy.2.1 hc1) cw11_74 m3_knows_in m3_knows_se (by decide) (zhlv Hy.2.1 rfl) rfl (zroom Hy.2.2 ⟨by decide, by decide⟩) rfl (by decide +kernel) ⟨Nat.zero_le _, Nat.zero_le _⟩ ?_
  refine zif_ne Hy.1 (off := 6) (tgt := 14) (by decide +kernel) (by decide) (fun hb14 => ?_) (fun hb14 => ?_)
  · replace h := zite_f h hb14
    refine zblq Hy.1 Hy.2.1 [(.aload 0, 1), (.getfield 1100, 3), (.iload 1, 1)] (S' := (19, [(0, .inr (.inr (some (11, 0)))), (1, .inl x1), (2, .inl x2)], [.inl x1, .inr (.inr (some (3, 0)))], zfC M1)) (b := true) (by decide +kernel) rfl rfl ?_
    obtain ⟨r2, M2, hc2, h⟩ := zbd_inv h
    refine zcallV Hy.1 (as := [.inl x1]) (st := []) (m3_of_met (zOK_G Hy.1) Hy.2.1 hc2) cw11_78 m3_of_in m3_of_se (by decide) (zhlv Hy.2.1 rfl) rfl (zroom Hy.2.2 ⟨by decide, by decide⟩) rfl (by decide +kernel) ⟨Nat.zero_le _, Nat.zero_le _⟩ ?_
    refine zblq Hy.1 Hy.2.1 [(.astore 3, 1), (.iload 2, 1)] (S' := (24, [(0, .inr (.inr (some (11, 0)))), (1, .inl x1), (2, .inl x2), (3, .inr (.inr (some (2, r2))))], [.inl x2], zfC M2)) (b := true) (by decide +kernel) rfl rfl ?_
    have hd3 : decode cX11_at 24 = .ok (.tableswitch 95 0 5 #[40, 45, 50, 55, 67, 87], 40) := by decide +kernel
    by_cases hs3_0 : x2 = (0 : Int32)
    · replace h := zite_t h hs3_0
      refine zsw_in Hy.1 (v := 0) (tgt := 64) (off := 40) hs3_0 hd3 (by decide +kernel) (by decide) ?_
      obtain ⟨hg4, h⟩ := zgd_inv h
      refine zblq Hy.1 Hy.2.1 [(.aload 3, 1), (.multianewarray 2 2, 3)] (S' := (68, [(0, .inr (.inr (some (11, 0)))), (1, .inl x1), (2, .inl x2), (3, .inr (.inr (some (2, r2))))], [.inl (cg M2 2 r2 2)], zfC M2)) (b := Nat.blt r2 10 && true) (by decide +kernel) rfl hg4 ?_
      cases h
      exact zret_i Hy.1 Hy.2.2 hE (by decide +kernel)
    replace h := zite_f h hs3_0
    by_cases hs3_1 : x2 = (1 : Int32)
    · replace h := zite_t h hs3_1
      refine zsw_in Hy.1 (v := 1) (tgt := 69) (off := 45) hs3_1 hd3 (by decide +kernel) (by decide) ?_
      refine zblq Hy.1 Hy.2.1 [(.aload 3, 1)] (S' := (70, [(0, .inr (.inr (some (11, 0)))), (1, .inl x1), (2, .inl x2), (3, .inr (.inr (some (2, r2))))], [.inr (.inr (some (2, r2)))], zfC M2)) (b := true) (by decide +kernel) rfl rfl ?_
      obtain ⟨hg6, h⟩ := zgd_inv h
      obtain ⟨r5, M5, hc5, h⟩ := zbd_inv h
      refine zcallV Hy.1 (as := []) (st := []) (m2_countNow_met (zOK_G Hy.1) Hy.2.1 hc5) cw11_115 m2_countNow_in m2_countNow_se (by decide) (zhlv Hy.2.1 hg6) rfl (zroom Hy.2.2 ⟨by decide, by decide⟩) rfl (by decide +kernel) ⟨Nat.zero_le _, Nat.zero_le _⟩ ?_
      cases h
      exact zret_i Hy.1 Hy.2.2 hE (by decide +kernel)
    replace h := zite_f h hs3_1
    by_cases hs3_2 : x2 = (2 : Int32)
    · replace h := zite_t h hs3_2
      refine zsw_in Hy.1 (v := 2) (tgt := 74) (off := 50) hs3_2 hd3 (by decide +kernel) (by decide) ?_
      obtain ⟨hg7, h⟩ := zgd_inv h
      refine zblq Hy.1 Hy.2.1 [(.aload 3, 1), (.multianewarray 2 7, 3)] (S' := (78, [(0, .inr (.inr (some (11, 0)))), (1, .inl x1), (2, .inl x2), (3, .inr (.inr (some (2, r2))))], [.inl (cg M2 2 r2 7)], zfC M2)) (b := Nat.blt r2 10 && true) (by decide +kernel) rfl hg7 ?_
      cases h
      exact zret_i Hy.1 Hy.2.2 hE (by decide +kernel)
    replace h := zite_f h hs3_2
    by_cases hs3_3 : x2 = (3 : Int32)
    · replace h := zite_t h hs3_3
      refine zsw_in Hy.1 (v := 3) (tgt := 79) (off := 55) hs3_3 hd3 (by decide +kernel) (by decide) ?_
      refine zblq Hy.1 Hy.2.1 [(.aload 3, 1), (.aload 0, 1), (.getfield 1100, 3), (.multianewarray 3 5, 3)] (S' := (87, [(0, .inr (.inr (some (11, 0)))), (1, .inl x1), (2, .inl x2), (3, .inr (.inr (some (2, r2))))], [.inl (cg M2 3 0 5), .inr (.inr (some (2, r2)))], zfC M2)) (b := true) (by decide +kernel) rfl rfl ?_
      obtain ⟨hg9, h⟩ := zgd_inv h
      obtain ⟨r8, M8, hc8, h⟩ := zbd_inv h
      refine zcallV Hy.1 (as := [.inl (cg M2 3 0 5)]) (st := []) (m2_localHour_met (zOK_G Hy.1) Hy.2.1 hc8) cw11_125 m2_localHour_in m2_localHour_se (by decide) (zhlv Hy.2.1 hg9) rfl (zroom Hy.2.2 ⟨by decide, by decide⟩) rfl (by decide +kernel) ⟨Nat.zero_le _, Nat.zero_le _⟩ ?_
      cases h
      exact zret_i Hy.1 Hy.2.2 hE (by decide +kernel)
    replace h := zite_f h hs3_3
    by_cases hs3_4 : x2 = (4 : Int32)
    · replace h := zite_t h hs3_4
      refine zsw_in Hy.1 (v := 4) (tgt := 91) (off := 67) hs3_4 hd3 (by decide +kernel) (by decide) ?_
      refine zblq Hy.1 Hy.2.1 [(.aload 3, 1), (.aload 0, 1), (.getfield 1100, 3), (.multianewarray 3 5, 3)] (S' := (99, [(0, .inr (.inr (some (11, 0)))), (1, .inl x1), (2, .inl x2), (3, .inr (.inr (some (2, r2))))], [.inl (cg M2 3 0 5), .inr (.inr (some (2, r2)))], zfC M2)) (b := true) (by decide +kernel) rfl rfl ?_
      obtain ⟨hg11, h⟩ := zgd_inv h
      obtain ⟨r10, M10, hc10, h⟩ := zbd_inv h
      refine zcallV Hy.1 (as := [.inl (cg M2 3 0 5)]) (st := []) (m2_isAwake_met (zOK_G Hy.1) Hy.2.1 hc10) cw11_128 m2_isAwake_in m2_isAwake_se (by decide) (zhlv Hy.2.1 hg11) rfl (zroom Hy.2.2 ⟨by decide, by decide⟩) rfl (by decide +kernel) ⟨Nat.zero_le _, Nat.zero_le _⟩ ?_
      refine zif_eq Hy.1 (off := 7) (tgt := 109) (by decide +kernel) (by decide) (fun hb12 => ?_) (fun hb12 => ?_)
      · replace h := zite_t h hb12
        refine zblq Hy.1 Hy.2.1 [(.iconst 0, 1)] (S' := (110, [(0, .inr (.inr (some (11, 0)))), (1, .inl x1), (2, .inl x2), (3, .inr (.inr (some (2, r2))))], [.inl (0 : Int32)], zfC M10)) (b := true) (by decide +kernel) rfl rfl ?_
        cases h
        exact zret_i Hy.1 Hy.2.2 hE (by decide +kernel)
      · replace h := zite_f h hb12
        refine zblq Hy.1 Hy.2.1 [(.iconst 1, 1), (.ldc 110, 3)] (S' := (110, [(0, .inr (.inr (some (11, 0)))), (1, .inl x1), (2, .inl x2), (3, .inr (.inr (some (2, r2))))], [.inl (1 : Int32)], zfC M10)) (b := true) (by decide +kernel) rfl rfl ?_
        cases h
        exact zret_i Hy.1 Hy.2.2 hE (by decide +kernel)
    replace h := zite_f h hs3_4
    by_cases hs3_5 : x2 = (5 : Int32)
    · replace h := zite_t h hs3_5
      refine zsw_in Hy.1 (v := 5) (tgt := 111) (off := 87) hs3_5 hd3 (by decide +kernel) (by decide) ?_
      obtain ⟨hg13, h⟩ := zgd_inv h
      refine zblq Hy.1 Hy.2.1 [(.aload 3, 1), (.getfield 215, 3), (.multianewarray 8 2, 3)] (S' := (118, [(0, .inr (.inr (some (11, 0)))), (1, .inl x1), (2, .inl x2), (3, .inr (.inr (some (2, r2))))], [.inl (cg M2 8 r2 2)], zfC M2)) (b := Nat.blt r2 10 && (Nat.blt r2 10 && true)) (by decide +kernel) rfl hg13 ?_
      cases h
      exact zret_i Hy.1 Hy.2.2 hE (by decide +kernel)
    replace h := zite_f h hs3_5
    refine zsw_out Hy.1 hd3 (zsw_far 6 (by decide) (fun j hj => match j, hj with | 0, _ => hs3_0 | 1, _ => hs3_1 | 2, _ => hs3_2 | 3, _ => hs3_3 | 4, _ => hs3_4 | 5, _ => hs3_5)) (by decide : (24 : Int) + 95 = (119 : Int)) ?_
    refine zblq Hy.1 Hy.2.1 [(.iconst (-3), 2)] (S' := (121, [(0, .inr (.inr (some (11, 0)))), (1, .inl x1), (2, .inl x2), (3, .inr (.inr (some (2, r2))))], [.inl (-3 : Int32)], zfC M2)) (b := true) (by decide +kernel) rfl rfl ?_
    cases h
    exact zret_i Hy.1 Hy.2.2 hE (by decide +kernel)
  · replace h := zite_t h hb14
    refine zblq Hy.1 Hy.2.1 [(.iconst (-2), 2)] (S' := (13, [(0, .inr (.inr (some (11, 0)))), (1, .inl x1), (2, .inl x2)], [.inl (-2 : Int32)], zfC M1)) (b := true) (by decide +kernel) rfl rfl ?_
    cases h
    exact zret_i Hy.1 Hy.2.2 hE (by decide +kernel)
theorem m11_at_met {l : Launch} {G : zG} (hG : zGok G) (hcn : zgcn G = zcC) {x1 : Int32} {x2 : Int32} {M : cM} {r : Int32} {M' : cM} (h : m11_at x1 x2 M = some (r, M')) : zMet l G yX11_at cX11_at 4 (some .int) 3 64 [.inr (.inr (some (11, 0))), .inl x1, .inl x2] (zfC M) (some (.inl r)) (zfC M') :=
  zMet_of hG tbX11_ok rfl (by decide +kernel) (Nat.le_of_ble_eq_true rfl) (fun X _ Z hA hE => m11_at_ok ⟨Z, hcn, hA⟩ hE x1 x2 M h)
abbrev q3_living : ByteArray × Nat × String × zT := (cX3_living, 3, RX3, tbX3)
def m3_living_29 (k4 : Int32 → Int32 → cM → Option (Int32 × cM)) (x1 : Int32) (x2 : Int32) (M : cM) : Option (Int32 × cM) := k4 x1 (x2 + (1 : Int32)) M
theorem m3_living_29_ok {X : zX} {G : zG} (Hy : zHy X G q3_living zcC 1 21 (some .int)) {r : Int32} {M' : cM} (hE : zEnd X G (some (.inl r)) (zfC M')) {k4 : Int32 → Int32 → cM → Option (Int32 × cM)} (hk4 : ∀ (x1 : Int32) (x2 : Int32) (M : cM), k4 x1 x2 M = some (r, M') → zGo (X, q3_living, G) 0 0 (4, [(0, .inr (.inr (some (3, 0)))), (1, .inl x1), (2, .inl x2)], [], zfC M)) (x1 : Int32) (x2 : Int32) (M : cM) (h : m3_living_29 k4 x1 x2 M = some (r, M')) : zGo (X, q3_living, G) 0 0 (29, [(0, .inr (.inr (some (3, 0)))), (1, .inl x1), (2, .inl x2)], [], zfC M) := by
  unfold m3_living_29 at h
  refine zblq Hy.1 Hy.2.1 [(.iinc 2 1, 3), (.ldc 4, 3)] (S' := (4, [(0, .inr (.inr (some (3, 0)))), (1, .inl x1), (2, .inl (x2 + (1 : Int32)))], [], zfC M)) (b := true) (by decide +kernel) rfl rfl ?_
  refine zGo_keep [0, 1, 2] rfl ?_
  exact hk4 x1 (x2 + (1 : Int32)) M h
def m3_living_4 : Nat → Int32 → Int32 → cM → Option (Int32 × cM)
  | 0, _, _, _ => none
  | n + 1, x1, x2, M => (if (cg M 3 0 4) ≤ x2 then some (x1, M) else zbd (m3_of x2 M) (fun r1 M1 => zgd (Nat.blt r1 10) (zbd (m2_isDead r1 M1) (fun r2 M2 => (if r2 = 0 then m3_living_29 (m3_living_4 n) (x1 ||| (zshl (1 : Int32) x2)) x2 M2 else m3_living_29 (m3_living_4 n) x1 x2 M2)))))
theorem m3_living_4_ok {X : zX} {G : zG} (Hy : zHy X G q3_living zcC 1 21 (some .int)) {r : Int32} {M' : cM} (hE : zEnd X G (some (.inl r)) (zfC M')) : ∀ (n : Nat) (x1 : Int32) (x2 : Int32) (M : cM), m3_living_4 n x1 x2 M = some (r, M') → zGo (X, q3_living, G) 0 0 (4, [(0, .inr (.inr (some (3, 0)))), (1, .inl x1), (2, .inl x2)], [], zfC M) := by
  intro n
  induction n with
  | zero => intro x1 x2 M h; cases h
  | succ n ih =>
    intro x1 x2 M h
    unfold m3_living_4 at h
    refine zblq Hy.1 Hy.2.1 [(.iload 2, 1), (.aload 0, 1), (.multianewarray 3 4, 3)] (S' := (9, [(0, .inr (.inr (some (3, 0)))), (1, .inl x1), (2, .inl x2)], [.inl (cg M 3 0 4), .inl x2], zfC M)) (b := true) (by decide +kernel) rfl rfl ?_
    refine zic_ge Hy.1 (off := 26) (tgt := 35) (by decide +kernel) (by decide) (fun hb5 => ?_) (fun hb5 => ?_)
    · replace h := zite_t h hb5
      refine zblq Hy.1 Hy.2.1 [(.iload 1, 1)] (S' := (36, [(0, .inr (.inr (some (3, 0)))), (1, .inl x1), (2, .inl x2)], [.inl x1], zfC M)) (b := true) (by decide +kernel) rfl rfl ?_
      cases h
      exact zret_i Hy.1 Hy.2.2 hE (by decide +kernel)
    · replace h := zite_f h hb5
      refine zblq Hy.1 Hy.2.1 [(.aload 0, 1), (.iload 2, 1)] (S' := (14, [(0, .inr (.inr (some (3, 0)))), (1, .inl x1), (2, .inl x2)], [.inl x2, .inr (.inr (some (3, 0)))], zfC M)) (b := true) (by decide +kernel) rfl rfl ?_
      obtain ⟨r1, M1, hc1, h⟩ := zbd_inv h
      refine zcallV Hy.1 (as := [.inl x2]) (st := []) (m3_of_met (zOK_G Hy.1) Hy.2.1 hc1) cw3_63 m3_of_in m3_of_se (by decide) (zhlv Hy.2.1 rfl) rfl (zroom Hy.2.2 ⟨by decide, by decide⟩) rfl (by decide +kernel) ⟨Nat.zero_le _, Nat.zero_le _⟩ ?_
      obtain ⟨hg3, h⟩ := zgd_inv h
      obtain ⟨r2, M2, hc2, h⟩ := zbd_inv h
      refine zcallV Hy.1 (as := []) (st := []) (m2_isDead_met (zOK_G Hy.1) Hy.2.1 hc2) cw3_67 m2_isDead_in m2_isDead_se (by decide) (zhlv Hy.2.1 hg3) rfl (zroom Hy.2.2 ⟨by decide, by decide⟩) rfl (by decide +kernel) ⟨Nat.zero_le _, Nat.zero_le _⟩ ?_
      refine zif_ne Hy.1 (off := 9) (tgt := 29) (by decide +kernel) (by decide) (fun hb4 => ?_) (fun hb4 => ?_)
      · replace h := zite_f h hb4
        refine zGo_keep [0, 1, 2] rfl ?_
        exact m3_living_29_ok Hy hE ih x1 x2 M2 h
      · replace h := zite_t h hb4
        refine zblq Hy.1 Hy.2.1 [(.iload 1, 1), (.iconst 1, 1), (.iload 2, 1), (.ishl, 1), (.ior, 1), (.istore 1, 1)] (S' := (29, [(0, .inr (.inr (some (3, 0)))), (1, .inl (x1 ||| (zshl (1 : Int32) x2))), (2, .inl x2)], [], zfC M2)) (b := true) (by decide +kernel) rfl rfl ?_
        refine zGo_keep [0, 1, 2] rfl ?_
        exact m3_living_29_ok Hy hE ih (x1 ||| (zshl (1 : Int32) x2)) x2 M2 h
def m3_living  (M : cM) : Option (Int32 × cM) := m3_living_4 zfu (0 : Int32) (0 : Int32) M
theorem m3_living_ok {X : zX} {G : zG} (Hy : zHy X G q3_living zcC 1 21 (some .int)) {r : Int32} {M' : cM} (hE : zEnd X G (some (.inl r)) (zfC M'))  (M : cM) (h : m3_living M = some (r, M')) : zGo (X, q3_living, G) 0 0 (0, [(0, .inr (.inr (some (3, 0))))], [], zfC M) := by
  unfold m3_living at h
  refine zblq Hy.1 Hy.2.1 [(.iconst 0, 1), (.istore 1, 1), (.iconst 0, 1), (.istore 2, 1)] (S' := (4, [(0, .inr (.inr (some (3, 0)))), (1, .inl (0 : Int32)), (2, .inl (0 : Int32))], [], zfC M)) (b := true) (by decide +kernel) rfl rfl ?_
  refine zGo_keep [0, 1, 2] rfl ?_
  exact m3_living_4_ok Hy hE zfu (0 : Int32) (0 : Int32) M h
theorem m3_living_met {l : Launch} {G : zG} (hG : zGok G) (hcn : zgcn G = zcC)  {M : cM} {r : Int32} {M' : cM} (h : m3_living M = some (r, M')) : zMet l G yX3_living cX3_living 3 (some .int) 1 21 [.inr (.inr (some (3, 0)))] (zfC M) (some (.inl r)) (zfC M') :=
  zMet_of hG tbX3_ok rfl (by decide +kernel) (Nat.le_of_ble_eq_true rfl) (fun X _ Z hA hE => m3_living_ok ⟨Z, hcn, hA⟩ hE M h)
abbrev q2_hearsBox : ByteArray × Nat × String × zT := (cX2_hearsBox, 2, RX2, tbX2)
def m2_hearsBox (i0 : Nat) (x1 : Int32) (M : cM) : Option (Int32 × cM) := zgd (Nat.blt i0 10 && true) ((if ((zshr (cg M 2 i0 9) x1) &&& (1 : Int32)) = (1 : Int32) then some ((1 : Int32), M) else some ((0 : Int32), M)))
theorem m2_hearsBox_ok {X : zX} {G : zG} (Hy : zHy X G q2_hearsBox zcC 0 0 (some .boolean)) {r : Int32} {M' : cM} (hE : zEnd X G (some (.inl r)) (zfC M')) (i0 : Nat) (x1 : Int32) (M : cM) (h : m2_hearsBox i0 x1 M = some (r, M')) : zGo (X, q2_hearsBox, G) 0 0 (0, [(0, .inr (.inr (some (2, i0)))), (1, .inl x1)], [], zfC M) := by
  unfold m2_hearsBox at h
  obtain ⟨hg1, h⟩ := zgd_inv h
  refine zblq Hy.1 Hy.2.1 [(.aload 0, 1), (.multianewarray 2 9, 3), (.iload 1, 1), (.ishr, 1), (.iconst 1, 1), (.iand, 1), (.iconst 1, 1)] (S' := (9, [(0, .inr (.inr (some (2, i0)))), (1, .inl x1)], [.inl (1 : Int32), .inl ((zshr (cg M 2 i0 9) x1) &&& (1 : Int32))], zfC M)) (b := Nat.blt i0 10 && true) (by decide +kernel) rfl hg1 ?_
  refine zic_ne Hy.1 (off := 7) (tgt := 16) (by decide +kernel) (by decide) (fun hb2 => ?_) (fun hb2 => ?_)
  · replace h := zite_f h hb2
    refine zblq Hy.1 Hy.2.1 [(.iconst 0, 1)] (S' := (17, [(0, .inr (.inr (some (2, i0)))), (1, .inl x1)], [.inl (0 : Int32)], zfC M)) (b := true) (by decide +kernel) rfl rfl ?_
    cases h
    exact zret_z Hy.1 Hy.2.2 (by decide) hE (by decide +kernel)
  · replace h := zite_t h hb2
    refine zblq Hy.1 Hy.2.1 [(.iconst 1, 1), (.ldc 17, 3)] (S' := (17, [(0, .inr (.inr (some (2, i0)))), (1, .inl x1)], [.inl (1 : Int32)], zfC M)) (b := true) (by decide +kernel) rfl rfl ?_
    cases h
    exact zret_z Hy.1 Hy.2.2 (by decide) hE (by decide +kernel)
theorem m2_hearsBox_met {l : Launch} {G : zG} (hG : zGok G) (hcn : zgcn G = zcC) {i0 : Nat} {x1 : Int32} {M : cM} {r : Int32} {M' : cM} (h : m2_hearsBox i0 x1 M = some (r, M')) : zMet l G yX2_hearsBox cX2_hearsBox 2 (some .boolean) 0 0 [.inr (.inr (some (2, i0))), .inl x1] (zfC M) (some (.inl r)) (zfC M') :=
  zMet_of hG tbX2_ok rfl (by decide +kernel) (Nat.le_of_ble_eq_true rfl) (fun X _ Z hA hE => m2_hearsBox_ok ⟨Z, hcn, hA⟩ hE i0 x1 M h)
abbrev q3_friends : ByteArray × Nat × String × zT := (cX3_friends, 4, RX3, tbX3)
def m3_friends_42 (k4 : Int32 → Int32 → Int32 → cM → Option (Int32 × cM)) (x1 : Int32) (x2 : Int32) (x3 : Int32) (M : cM) : Option (Int32 × cM) := k4 x1 x2 (x3 + (1 : Int32)) M
theorem m3_friends_42_ok {X : zX} {G : zG} (Hy : zHy X G q3_friends zcC 1 21 (some .int)) {r : Int32} {M' : cM} (hE : zEnd X G (some (.inl r)) (zfC M')) {k4 : Int32 → Int32 → Int32 → cM → Option (Int32 × cM)} (hk4 : ∀ (x1 : Int32) (x2 : Int32) (x3 : Int32) (M : cM), k4 x1 x2 x3 M = some (r, M') → zGo (X, q3_friends, G) 0 0 (4, [(0, .inr (.inr (some (3, 0)))), (1, .inl x1), (2, .inl x2), (3, .inl x3)], [], zfC M)) (x1 : Int32) (x2 : Int32) (x3 : Int32) (M : cM) (h : m3_friends_42 k4 x1 x2 x3 M = some (r, M')) : zGo (X, q3_friends, G) 0 0 (42, [(0, .inr (.inr (some (3, 0)))), (1, .inl x1), (2, .inl x2), (3, .inl x3)], [], zfC M) := by
  unfold m3_friends_42 at h
  refine zblq Hy.1 Hy.2.1 [(.iinc 3 1, 3), (.ldc 4, 3)] (S' := (4, [(0, .inr (.inr (some (3, 0)))), (1, .inl x1), (2, .inl x2), (3, .inl (x3 + (1 : Int32)))], [], zfC M)) (b := true) (by decide +kernel) rfl rfl ?_
  refine zGo_keep [0, 1, 2, 3] rfl ?_
  exact hk4 x1 x2 (x3 + (1 : Int32)) M h
def m3_friends_4 : Nat → Int32 → Int32 → Int32 → cM → Option (Int32 × cM)
  | 0, _, _, _, _ => none
  | n + 1, x1, x2, x3, M => (if (cg M 3 0 4) ≤ x3 then some (x2, M) else zbd (m3_of x3 M) (fun r1 M1 => zgd (Nat.blt r1 10) (zbd (m2_hearsBox r1 x1 M1) (fun r2 M2 => (if r2 = 0 then m3_friends_42 (m3_friends_4 n) x1 x2 x3 M2 else zbd (m3_of x1 M2) (fun r4 M4 => zgd (Nat.blt r4 10) (zbd (m2_hearsBox r4 x3 M4) (fun r5 M5 => (if r5 = 0 then m3_friends_42 (m3_friends_4 n) x1 x2 x3 M5 else m3_friends_42 (m3_friends_4 n) x1 (x2 ||| (zshl (1 : Int32) x3)) x3 M5)))))))))
theorem m3_friends_4_ok {X : zX} {G : zG} (Hy : zHy X G q3_friends zcC 1 21 (some .int)) {r : Int32} {M' : cM} (hE : zEnd X G (some (.inl r)) (zfC M')) : ∀ (n : Nat) (x1 : Int32) (x2 : Int32) (x3 : Int32) (M : cM), m3_friends_4 n x1 x2 x3 M = some (r, M') → zGo (X, q3_friends, G) 0 0 (4, [(0, .inr (.inr (some (3, 0)))), (1, .inl x1), (2, .inl x2), (3, .inl x3)], [], zfC M) := by
  intro n
  induction n with
  | zero => intro x1 x2 x3 M h; cases h
  | succ n ih =>
    intro x1 x2 x3 M h
    unfold m3_friends_4 at h
    refine zblq Hy.1 Hy.2.1 [(.iload 3, 1), (.aload 0, 1), (.multianewarray 3 4, 3)] (S' := (9, [(0, .inr (.inr (some (3, 0)))), (1, .inl x1), (2, .inl x2), (3, .inl x3)], [.inl (cg M 3 0 4), .inl x3], zfC M)) (b := true) (by decide +kernel) rfl rfl ?_
    refine zic_ge Hy.1 (off := 39) (tgt := 48) (by decide +kernel) (by decide) (fun hb9 => ?_) (fun hb9 => ?_)
    · replace h := zite_t h hb9
      refine zblq Hy.1 Hy.2.1 [(.iload 2, 1)] (S' := (49, [(0, .inr (.inr (some (3, 0)))), (1, .inl x1), (2, .inl x2), (3, .inl x3)], [.inl x2], zfC M)) (b := true) (by decide +kernel) rfl rfl ?_
      cases h
      exact zret_i Hy.1 Hy.2.2 hE (by decide +kernel)
    · replace h := zite_f h hb9
      refine zblq Hy.1 Hy.2.1 [(.aload 0, 1), (.iload 3, 1)] (S' := (14, [(0, .inr (.inr (some (3, 0)))), (1, .inl x1), (2, .inl x2), (3, .inl x3)], [.inl x3, .inr (.inr (some (3, 0)))], zfC M)) (b := true) (by decide +kernel) rfl rfl ?_
      obtain ⟨r1, M1, hc1, h⟩ := zbd_inv h
      refine zcallV Hy.1 (as := [.inl x3]) (st := []) (m3_of_met (zOK_G Hy.1) Hy.2.1 hc1) cw3_63 m3_of_in m3_of_se (by decide) (zhlv Hy.2.1 rfl) rfl (zroom Hy.2.2 ⟨by decide, by decide⟩) rfl (by decide +kernel) ⟨Nat.zero_le _, Nat.zero_le _⟩ ?_
      refine zblq Hy.1 Hy.2.1 [(.iload 1, 1)] (S' := (18, [(0, .inr (.inr (some (3, 0)))), (1, .inl x1), (2, .inl x2), (3, .inl x3)], [.inl x1, .inr (.inr (some (2, r1)))], zfC M1)) (b := true) (by decide +kernel) rfl rfl ?_
      obtain ⟨hg3, h⟩ := zgd_inv h
      obtain ⟨r2, M2, hc2, h⟩ := zbd_inv h
      refine zcallV Hy.1 (as := [.inl x1]) (st := []) (m2_hearsBox_met (zOK_G Hy.1) Hy.2.1 hc2) cw3_71 m2_hearsBox_in m2_hearsBox_se (by decide) (zhlv Hy.2.1 hg3) rfl (zroom Hy.2.2 ⟨by decide, by decide⟩) rfl (by decide +kernel) ⟨Nat.zero_le _, Nat.zero_le _⟩ ?_
      refine zif_eq Hy.1 (off := 21) (tgt := 42) (by decide +kernel) (by decide) (fun hb8 => ?_) (fun hb8 => ?_)
      · replace h := zite_t h hb8
        refine zGo_keep [0, 1, 2, 3] rfl ?_
        exact m3_friends_42_ok Hy hE ih x1 x2 x3 M2 h
      · replace h := zite_f h hb8
        refine zblq Hy.1 Hy.2.1 [(.aload 0, 1), (.iload 1, 1)] (S' := (26, [(0, .inr (.inr (some (3, 0)))), (1, .inl x1), (2, .inl x2), (3, .inl x3)], [.inl x1, .inr (.inr (some (3, 0)))], zfC M2)) (b := true) (by decide +kernel) rfl rfl ?_
        obtain ⟨r4, M4, hc4, h⟩ := zbd_inv h
        refine zcallV Hy.1 (as := [.inl x1]) (st := []) (m3_of_met (zOK_G Hy.1) Hy.2.1 hc4) cw3_63 m3_of_in m3_of_se (by decide) (zhlv Hy.2.1 rfl) rfl (zroom Hy.2.2 ⟨by decide, by decide⟩) rfl (by decide +kernel) ⟨Nat.zero_le _, Nat.zero_le _⟩ ?_
        refine zblq Hy.1 Hy.2.1 [(.iload 3, 1)] (S' := (30, [(0, .inr (.inr (some (3, 0)))), (1, .inl x1), (2, .inl x2), (3, .inl x3)], [.inl x3, .inr (.inr (some (2, r4)))], zfC M4)) (b := true) (by decide +kernel) rfl rfl ?_
        obtain ⟨hg6, h⟩ := zgd_inv h
        obtain ⟨r5, M5, hc5, h⟩ := zbd_inv h
        refine zcallV Hy.1 (as := [.inl x3]) (st := []) (m2_hearsBox_met (zOK_G Hy.1) Hy.2.1 hc5) cw3_71 m2_hearsBox_in m2_hearsBox_se (by decide) (zhlv Hy.2.1 hg6) rfl (zroom Hy.2.2 ⟨by decide, by decide⟩) rfl (by decide +kernel) ⟨Nat.zero_le _, Nat.zero_le _⟩ ?_
        refine zif_eq Hy.1 (off := 9) (tgt := 42) (by decide +kernel) (by decide) (fun hb7 => ?_) (fun hb7 => ?_)
        · replace h := zite_t h hb7
          refine zGo_keep [0, 1, 2, 3] rfl ?_
          exact m3_friends_42_ok Hy hE ih x1 x2 x3 M5 h
        · replace h := zite_f h hb7
          refine zblq Hy.1 Hy.2.1 [(.iload 2, 1), (.iconst 1, 1), (.iload 3, 1), (.ishl, 1), (.ior, 1), (.istore 2, 1)] (S' := (42, [(0, .inr (.inr (some (3, 0)))), (1, .inl x1), (2, .inl (x2 ||| (zshl (1 : Int32) x3))), (3, .inl x3)], [], zfC M5)) (b := true) (by decide +kernel) rfl rfl ?_
          refine zGo_keep [0, 1, 2, 3] rfl ?_
          exact m3_friends_42_ok Hy hE ih x1 (x2 ||| (zshl (1 : Int32) x3)) x3 M5 h
def m3_friends (x1 : Int32) (M : cM) : Option (Int32 × cM) := m3_friends_4 zfu x1 (0 : Int32) (0 : Int32) M
theorem m3_friends_ok {X : zX} {G : zG} (Hy : zHy X G q3_friends zcC 1 21 (some .int)) {r : Int32} {M' : cM} (hE : zEnd X G (some (.inl r)) (zfC M')) (x1 : Int32) (M : cM) (h : m3_friends x1 M = some (r, M')) : zGo (X, q3_friends, G) 0 0 (0, [(0, .inr (.inr (some (3, 0)))), (1, .inl x1)], [], zfC M) := by
  unfold m3_friends at h
  refine zblq Hy.1 Hy.2.1 [(.iconst 0, 1), (.istore 2, 1), (.iconst 0, 1), (.istore 3, 1)] (S' := (4, [(0, .inr (.inr (some (3, 0)))), (1, .inl x1), (2, .inl (0 : Int32)), (3, .inl (0 : Int32))], [], zfC M)) (b := true) (by decide +kernel) rfl rfl ?_
  refine zGo_keep [0, 1, 2, 3] rfl ?_
  exact m3_friends_4_ok Hy hE zfu x1 (0 : Int32) (0 : Int32) M h
theorem m3_friends_met {l : Launch} {G : zG} (hG : zGok G) (hcn : zgcn G = zcC) {x1 : Int32} {M : cM} {r : Int32} {M' : cM} (h : m3_friends x1 M = some (r, M')) : zMet l G yX3_friends cX3_friends 4 (some .int) 1 21 [.inr (.inr (some (3, 0))), .inl x1] (zfC M) (some (.inl r)) (zfC M') :=
  zMet_of hG tbX3_ok rfl (by decide +kernel) (Nat.le_of_ble_eq_true rfl) (fun X _ Z hA hE => m3_friends_ok ⟨Z, hcn, hA⟩ hE x1 M h)
abbrev q3_lookHome : ByteArray × Nat × String × zT := (cX3_lookHome, 6, RX3, tbX3)
def m3_lookHome_99 (k31 : Int32 → Int32 → Int32 → Int32 → cM → Option cM) (x1 : Int32) (x2 : Int32) (x3 : Int32) (x4 : Int32) (M : cM) : Option cM := k31 x1 x2 x3 (x4 + (1 : Int32)) M
theorem m3_lookHome_99_ok {X : zX} {G : zG} (Hy : zHy X G q3_lookHome zcC 2 40 (none)) {M' : cM} (hE : zEnd X G (none) (zfC M')) {k31 : Int32 → Int32 → Int32 → Int32 → cM → Option cM} (hk31 : ∀ (x1 : Int32) (x2 : Int32) (x3 : Int32) (x4 : Int32) (M : cM), k31 x1 x2 x3 x4 M = some M' → zGo (X, q3_lookHome, G) 0 0 (31, [(0, .inr (.inr (some (3, 0)))), (1, .inl x1), (2, .inl x2), (3, .inl x3), (4, .inl x4)], [], zfC M)) (x1 : Int32) (x2 : Int32) (x3 : Int32) (x4 : Int32) (M : cM) (h : m3_lookHome_99 k31 x1 x2 x3 x4 M = some M') : zGo (X, q3_lookHome, G) 0 0 (99, [(0, .inr (.inr (some (3, 0)))), (1, .inl x1), (2, .inl x2), (3, .inl x3), (4, .inl x4)], [], zfC M) := by
  unfold m3_lookHome_99 at h
  refine zblq Hy.1 Hy.2.1 [(.iinc 4 1, 3), (.ldc 31, 3)] (S' := (31, [(0, .inr (.inr (some (3, 0)))), (1, .inl x1), (2, .inl x2), (3, .inl x3), (4, .inl (x4 + (1 : Int32)))], [], zfC M)) (b := true) (by decide +kernel) rfl rfl ?_
  refine zGo_keep [0, 1, 2, 3, 4] rfl ?_
  exact hk31 x1 x2 x3 (x4 + (1 : Int32)) M h
def m3_lookHome_31 : Nat → Int32 → Int32 → Int32 → Int32 → cM → Option cM
  | 0, _, _, _, _, _ => none
  | n + 1, x1, x2, x3, x4, M => (if (cg M 3 0 4) ≤ x4 then some M else (if ((zshr x2 x4) &&& (1 : Int32)) = 0 then m3_lookHome_99 (m3_lookHome_31 n) x1 x2 x3 x4 M else zbd (m3_of x4 M) (fun r2 M2 => zgd (Nat.blt r2 10) (zbd (m2_countNow r2 M2) (fun r3 M3 => (if r3 = (-1 : Int32) then m3_lookHome_99 (m3_lookHome_31 n) x1 x2 x3 x4 M3 else (if r3 < x3 then zgd (zin x1 10 && (zin x1 10 && true)) (m3_lookHome_99 (m3_lookHome_31 n) x1 x2 r3 x4 (cs (cs M3 402 0 (nx x1) (r3 + (1 : Int32))) 403 0 (nx x1) x4)) else m3_lookHome_99 (m3_lookHome_31 n) x1 x2 x3 x4 M3)))))))
theorem m3_lookHome_31_ok {X : zX} {G : zG} (Hy : zHy X G q3_lookHome zcC 2 40 (none)) {M' : cM} (hE : zEnd X G (none) (zfC M')) : ∀ (n : Nat) (x1 : Int32) (x2 : Int32) (x3 : Int32) (x4 : Int32) (M : cM), m3_lookHome_31 n x1 x2 x3 x4 M = some M' → zGo (X, q3_lookHome, G) 0 0 (31, [(0, .inr (.inr (some (3, 0)))), (1, .inl x1), (2, .inl x2), (3, .inl x3), (4, .inl x4)], [], zfC M) := by
  intro n
  induction n with
  | zero => intro x1 x2 x3 x4 M h; cases h
  | succ n ih =>
    intro x1 x2 x3 x4 M h
    unfold m3_lookHome_31 at h
    refine zblq Hy.1 Hy.2.1 [(.iload 4, 2), (.aload 0, 1), (.multianewarray 3 4, 3)] (S' := (37, [(0, .inr (.inr (some (3, 0)))), (1, .inl x1), (2, .inl x2), (3, .inl x3), (4, .inl x4)], [.inl (cg M 3 0 4), .inl x4], zfC M)) (b := true) (by decide +kernel) rfl rfl ?_
    refine zic_ge Hy.1 (off := 68) (tgt := 105) (by decide +kernel) (by decide) (fun hb9 => ?_) (fun hb9 => ?_)
    · replace h := zite_t h hb9
      cases h
      exact zret_v Hy.1 Hy.2.2 hE (by decide +kernel)
    · replace h := zite_f h hb9
      refine zblq Hy.1 Hy.2.1 [(.iload 2, 1), (.iload 4, 2), (.ishr, 1), (.iconst 1, 1), (.iand, 1)] (S' := (46, [(0, .inr (.inr (some (3, 0)))), (1, .inl x1), (2, .inl x2), (3, .inl x3), (4, .inl x4)], [.inl ((zshr x2 x4) &&& (1 : Int32))], zfC M)) (b := true) (by decide +kernel) rfl rfl ?_
      refine zif_ne Hy.1 (off := 6) (tgt := 52) (by decide +kernel) (by decide) (fun hb8 => ?_) (fun hb8 => ?_)
      · replace h := zite_f h hb8
        refine zblq Hy.1 Hy.2.1 [(.aload 0, 1), (.iload 4, 2)] (S' := (55, [(0, .inr (.inr (some (3, 0)))), (1, .inl x1), (2, .inl x2), (3, .inl x3), (4, .inl x4)], [.inl x4, .inr (.inr (some (3, 0)))], zfC M)) (b := true) (by decide +kernel) rfl rfl ?_
        obtain ⟨r2, M2, hc2, h⟩ := zbd_inv h
        refine zcallV Hy.1 (as := [.inl x4]) (st := []) (m3_of_met (zOK_G Hy.1) Hy.2.1 hc2) cw3_63 m3_of_in m3_of_se (by decide) (zhlv Hy.2.1 rfl) rfl (zroom Hy.2.2 ⟨by decide, by decide⟩) rfl (by decide +kernel) ⟨Nat.zero_le _, Nat.zero_le _⟩ ?_
        obtain ⟨hg4, h⟩ := zgd_inv h
        obtain ⟨r3, M3, hc3, h⟩ := zbd_inv h
        refine zcallV Hy.1 (as := []) (st := []) (m2_countNow_met (zOK_G Hy.1) Hy.2.1 hc3) cw3_78 m2_countNow_in m2_countNow_se (by decide) (zhlv Hy.2.1 hg4) rfl (zroom Hy.2.2 ⟨by decide, by decide⟩) rfl (by decide +kernel) ⟨Nat.zero_le _, Nat.zero_le _⟩ ?_
        refine zblq Hy.1 Hy.2.1 [(.istore 5, 2), (.iload 5, 2), (.iconst (-1), 1)] (S' := (66, [(0, .inr (.inr (some (3, 0)))), (1, .inl x1), (2, .inl x2), (3, .inl x3), (4, .inl x4), (5, .inl r3)], [.inl (-1 : Int32), .inl r3], zfC M3)) (b := true) (by decide +kernel) rfl rfl ?_
        refine zic_eq Hy.1 (off := 33) (tgt := 99) (by decide +kernel) (by decide) (fun hb7 => ?_) (fun hb7 => ?_)
        · replace h := zite_t h hb7
          refine zGo_keep [0, 1, 2, 3, 4] rfl ?_
          exact m3_lookHome_99_ok Hy hE ih x1 x2 x3 x4 M3 h
        · replace h := zite_f h hb7
          refine zblq Hy.1 Hy.2.1 [(.iload 5, 2), (.iload 3, 1)] (S' := (72, [(0, .inr (.inr (some (3, 0)))), (1, .inl x1), (2, .inl x2), (3, .inl x3), (4, .inl x4), (5, .inl r3)], [.inl x3, .inl r3], zfC M3)) (b := true) (by decide +kernel) rfl rfl ?_
          refine zic_lt Hy.1 (off := 6) (tgt := 78) (by decide +kernel) (by decide) (fun hb6 => ?_) (fun hb6 => ?_)
          · replace h := zite_t h hb6
            obtain ⟨hg5, h⟩ := zgd_inv h
            refine zblq Hy.1 Hy.2.1 [(.iload 5, 2), (.istore 3, 1), (.aload 0, 1), (.getfield 302, 3), (.iload 1, 1), (.iload 5, 2), (.iconst 1, 1), (.iadd, 1), (.iastore, 1), (.aload 0, 1), (.getfield 303, 3), (.iload 1, 1), (.iload 4, 2), (.iastore, 1)] (S' := (99, [(0, .inr (.inr (some (3, 0)))), (1, .inl x1), (2, .inl x2), (3, .inl r3), (4, .inl x4), (5, .inl r3)], [], zfC (cs (cs M3 402 0 (nx x1) (r3 + (1 : Int32))) 403 0 (nx x1) x4))) (b := zin x1 10 && (zin x1 10 && true)) (by decide +kernel) rfl hg5 ?_
            refine zGo_keep [0, 1, 2, 3, 4] rfl ?_
            exact m3_lookHome_99_ok Hy hE ih x1 x2 r3 x4 (cs (cs M3 402 0 (nx x1) (r3 + (1 : Int32))) 403 0 (nx x1) x4) h
          · replace h := zite_f h hb6
            refine zblq Hy.1 Hy.2.1 [(.ldc 99, 3)] (S' := (99, [(0, .inr (.inr (some (3, 0)))), (1, .inl x1), (2, .inl x2), (3, .inl x3), (4, .inl x4), (5, .inl r3)], [], zfC M3)) (b := true) (by decide +kernel) rfl rfl ?_
            refine zGo_keep [0, 1, 2, 3, 4] rfl ?_
            exact m3_lookHome_99_ok Hy hE ih x1 x2 x3 x4 M3 h
      · replace h := zite_t h hb8
        refine zblq Hy.1 Hy.2.1 [(.ldc 99, 3)] (S' := (99, [(0, .inr (.inr (some (3, 0)))), (1, .inl x1), (2, .inl x2), (3, .inl x3), (4, .inl x4)], [], zfC M)) (b := true) (by decide +kernel) rfl rfl ?_
        refine zGo_keep [0, 1, 2, 3, 4] rfl ?_
        exact m3_lookHome_99_ok Hy hE ih x1 x2 x3 x4 M h
def m3_lookHome (x1 : Int32) (x2 : Int32) (M : cM) : Option cM := (if x1 < 0 then some M else (if x1 < (10 : Int32) then zgd (zin x1 10 && (zin x1 10 && true)) (m3_lookHome_31 zfu x1 x2 (9 : Int32) (0 : Int32) (cs (cs M 402 0 (nx x1) (-1 : Int32)) 403 0 (nx x1) (-1 : Int32))) else some M))
theorem m3_lookHome_ok {X : zX} {G : zG} (Hy : zHy X G q3_lookHome zcC 2 40 (none)) {M' : cM} (hE : zEnd X G (none) (zfC M')) (x1 : Int32) (x2 : Int32) (M : cM) (h : m3_lookHome x1 x2 M = some M') : zGo (X, q3_lookHome, G) 0 0 (0, [(0, .inr (.inr (some (3, 0)))), (1, .inl x1), (2, .inl x2)], [], zfC M) := by
  unfold m3_lookHome at h
  refine zblq Hy.1 Hy.2.1 [(.iload 1, 1)] (S' := (1, [(0, .inr (.inr (some (3, 0)))), (1, .inl x1), (2, .inl x2)], [.inl x1], zfC M)) (b := true) (by decide +kernel) rfl rfl ?_
  refine zif_lt Hy.1 (off := 9) (tgt := 10) (by decide +kernel) (by decide) (fun hb11 => ?_) (fun hb11 => ?_)
  · replace h := zite_t h hb11
    cases h
    exact zret_v Hy.1 Hy.2.2 hE (by decide +kernel)
  · replace h := zite_f h hb11
    refine zblq Hy.1 Hy.2.1 [(.iload 1, 1), (.iconst 10, 2)] (S' := (7, [(0, .inr (.inr (some (3, 0)))), (1, .inl x1), (2, .inl x2)], [.inl (10 : Int32), .inl x1], zfC M)) (b := true) (by decide +kernel) rfl rfl ?_
    refine zic_lt Hy.1 (off := 4) (tgt := 11) (by decide +kernel) (by decide) (fun hb10 => ?_) (fun hb10 => ?_)
    · replace h := zite_t h hb10
      obtain ⟨hg1, h⟩ := zgd_inv h
      refine zblq Hy.1 Hy.2.1 [(.aload 0, 1), (.getfield 302, 3), (.iload 1, 1), (.iconst (-1), 1), (.iastore, 1), (.aload 0, 1), (.getfield 303, 3), (.iload 1, 1), (.iconst (-1), 1), (.iastore, 1), (.iconst 9, 2), (.istore 3, 1), (.iconst 0, 1), (.istore 4, 2)] (S' := (31, [(0, .inr (.inr (some (3, 0)))), (1, .inl x1), (2, .inl x2), (3, .inl (9 : Int32)), (4, .inl (0 : Int32))], [], zfC (cs (cs M 402 0 (nx x1) (-1 : Int32)) 403 0 (nx x1) (-1 : Int32)))) (b := zin x1 10 && (zin x1 10 && true)) (by decide +kernel) rfl hg1 ?_
      refine zGo_keep [0, 1, 2, 3, 4] rfl ?_
      exact m3_lookHome_31_ok Hy hE zfu x1 x2 (9 : Int32) (0 : Int32) (cs (cs M 402 0 (nx x1) (-1 : Int32)) 403 0 (nx x1) (-1 : Int32)) h
    · replace h := zite_f h hb10
      cases h
      exact zret_v Hy.1 Hy.2.2 hE (by decide +kernel)
theorem m3_lookHome_met {l : Launch} {G : zG} (hG : zGok G) (hcn : zgcn G = zcC) {x1 : Int32} {x2 : Int32} {M : cM} {M' : cM} (h : m3_lookHome x1 x2 M = some M') : zMet l G yX3_lookHome cX3_lookHome 6 (none) 2 40 [.inr (.inr (some (3, 0))), .inl x1, .inl x2] (zfC M) (none) (zfC M') :=
  zMet_of hG tbX3_ok rfl (by decide +kernel) (Nat.le_of_ble_eq_true rfl) (fun X _ Z hA hE => m3_lookHome_ok ⟨Z, hcn, hA⟩ hE x1 x2 M h)
