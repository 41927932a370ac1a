abbrev q5_lifeWith : ByteArray × Nat × String × zT := (cX5_lifeWith, 4, RX5, tbX5)
def m5_lifeWith (x1 : Int32) (x2 : Int32) (M : cM) : Option (Int32 × cM) := (if (((10 : Int32) * x1) + x2) < 0 then some ((0 : Int32), M) else (if (100 : Int32) ≤ (((10 : Int32) * x1) + x2) then some ((0 : Int32), M) else zgd (zin (((10 : Int32) * x1) + x2) 100 && true) (some (cg M 602 0 (nx (((10 : Int32) * x1) + x2)), M))))
theorem m5_lifeWith_ok {X : zX} {G : zG} (Hy : zHy X G q5_lifeWith zcC 0 0 (some .int)) {r : Int32} {M' : cM} (hE : zEnd X G (some (.inl r)) (zfC M')) (x1 : Int32) (x2 : Int32) (M : cM) (h : m5_lifeWith x1 x2 M = some (r, M')) : zGo (X, q5_lifeWith, G) 0 0 (0, [(0, .inr (.inr (some (5, 0)))), (1, .inl x1), (2, .inl x2)], [], zfC M) := by
  unfold m5_lifeWith at h
  refine zblq Hy.1 Hy.2.1 [(.iconst 10, 2), (.iload 1, 1), (.imul, 1), (.iload 2, 1), (.iadd, 1), (.istore 3, 1), (.iload 3, 1)] (S' := (8, [(0, .inr (.inr (some (5, 0)))), (1, .inl x1), (2, .inl x2), (3, .inl (((10 : Int32) * x1) + x2))], [.inl (((10 : Int32) * x1) + x2)], zfC M)) (b := true) (by decide +kernel) rfl rfl ?_
  refine zif_lt Hy.1 (off := 21) (tgt := 29) (by decide +kernel) (by decide) (fun hb3 => ?_) (fun hb3 => ?_)
  · replace h := zite_t h hb3
    refine zblq Hy.1 Hy.2.1 [(.iconst 0, 1)] (S' := (30, [(0, .inr (.inr (some (5, 0)))), (1, .inl x1), (2, .inl x2), (3, .inl (((10 : Int32) * x1) + x2))], [.inl (0 : Int32)], zfC M)) (b := true) (by decide +kernel) rfl rfl ?_
    cases h
    exact zret_i Hy.1 Hy.2.2 hE (by decide +kernel)
  · replace h := zite_f h hb3
    refine zblq Hy.1 Hy.2.1 [(.iload 3, 1), (.aload 0, 1), (.getfield 502, 3), (.arraylength, 1)] (S' := (17, [(0, .inr (.inr (some (5, 0)))), (1, .inl x1), (2, .inl x2), (3, .inl (((10 : Int32) * x1) + x2))], [.inl (100 : Int32), .inl (((10 : Int32) * x1) + x2)], zfC M)) (b := true) (by decide +kernel) rfl rfl ?_
    refine zic_ge Hy.1 (off := 12) (tgt := 29) (by decide +kernel) (by decide) (fun hb2 => ?_) (fun hb2 => ?_)
    · replace h := zite_t h hb2
      refine zblq Hy.1 Hy.2.1 [(.iconst 0, 1)] (S' := (30, [(0, .inr (.inr (some (5, 0)))), (1, .inl x1), (2, .inl x2), (3, .inl (((10 : Int32) * x1) + x2))], [.inl (0 : Int32)], zfC M)) (b := true) (by decide +kernel) rfl rfl ?_
      cases h
      exact zret_i Hy.1 Hy.2.2 hE (by decide +kernel)
    · replace h := zite_f h hb2
      obtain ⟨hg1, h⟩ := zgd_inv h
      refine zblq Hy.1 Hy.2.1 [(.aload 0, 1), (.getfield 502, 3), (.iload 3, 1), (.iaload, 1), (.ldc 30, 3)] (S' := (30, [(0, .inr (.inr (some (5, 0)))), (1, .inl x1), (2, .inl x2), (3, .inl (((10 : Int32) * x1) + x2))], [.inl (cg M 602 0 (nx (((10 : Int32) * x1) + x2)))], zfC M)) (b := zin (((10 : Int32) * x1) + x2) 100 && true) (by decide +kernel) rfl hg1 ?_
      cases h
      exact zret_i Hy.1 Hy.2.2 hE (by decide +kernel)
theorem m5_lifeWith_met {l : Launch} {G : zG} (hG : zGok G) (hcn : zgcn G = zcC) {x1 : Int32} {x2 : Int32} {M : cM} {r : Int32} {M' : cM} (h : m5_lifeWith x1 x2 M = some (r, M')) : zMet l G yX5_lifeWith cX5_lifeWith 4 (some .int) 0 0 [.inr (.inr (some (5, 0))), .inl x1, .inl x2] (zfC M) (some (.inl r)) (zfC M') :=
  zMet_of hG tbX5_ok rfl (by decide +kernel) (Nat.le_of_ble_eq_true rfl) (fun X _ Z hA hE => m5_lifeWith_ok ⟨Z, hcn, hA⟩ hE x1 x2 M h)
abbrev q5_lifeNow : ByteArray × Nat × String × zT := (cX5_lifeNow, 2, RX5, tbX5)
def m5_lifeNow_22 (x1 : Int32) (t1 : Int32) (t2 : Int32) (M : cM) : Option (Int32 × cM) := zbv (m5_foreseeLives t1 t2 M) (fun M3 => zbd (m3_children x1 M3) (fun r4 M4 => zbd (m5_lifeWith x1 r4 M4) (fun r5 M5 => some (r5, M5))))
theorem m5_lifeNow_22_ok {X : zX} {G : zG} (Hy : zHy X G q5_lifeNow zcC 4 93 (some .int)) {r : Int32} {M' : cM} (hE : zEnd X G (some (.inl r)) (zfC M')) (x1 : Int32) (t1 : Int32) (t2 : Int32) (M : cM) (h : m5_lifeNow_22 x1 t1 t2 M = some (r, M')) : zGo (X, q5_lifeNow, G) 0 0 (22, [(0, .inr (.inr (some (5, 0)))), (1, .inl x1)], [.inl t2, .inl t1, .inr (.inr (some (5, 0)))], zfC M) := by
  unfold m5_lifeNow_22 at h
  obtain ⟨M3, hc3, h⟩ := zbv_inv h
  refine zcallV Hy.1 (as := [.inl t1, .inl t2]) (st := []) (m5_foreseeLives_met (zOK_G Hy.1) Hy.2.1 hc3) cw5_70 m5_foreseeLives_in m5_foreseeLives_se (by decide) (zhlv Hy.2.1 rfl) rfl (zroom Hy.2.2 ⟨by decide, by decide⟩) rfl (by decide +kernel) ⟨Nat.zero_le _, Nat.zero_le _⟩ ?_
  refine zblq Hy.1 Hy.2.1 [(.aload 0, 1), (.iload 1, 1), (.aload 0, 1), (.getfield 500, 3), (.iload 1, 1)] (S' := (32, [(0, .inr (.inr (some (5, 0)))), (1, .inl x1)], [.inl x1, .inr (.inr (some (3, 0))), .inl x1, .inr (.inr (some (5, 0)))], zfC M3)) (b := true) (by decide +kernel) rfl rfl ?_
  obtain ⟨r4, M4, hc4, h⟩ := zbd_inv h
  refine zcallV Hy.1 (as := [.inl x1]) (st := [.inl x1, .inr (.inr (some (5, 0)))]) (m3_children_met (zOK_G Hy.1) Hy.2.1 hc4) cw5_48 m3_children_in m3_children_se (by decide) (zhlv Hy.2.1 rfl) rfl (zroom Hy.2.2 ⟨by decide, by decide⟩) rfl (by decide +kernel) ⟨Nat.zero_le _, Nat.zero_le _⟩ ?_
  obtain ⟨r5, M5, hc5, h⟩ := zbd_inv h
  refine zcallV Hy.1 (as := [.inl x1, .inl r4]) (st := []) (m5_lifeWith_met (zOK_G Hy.1) Hy.2.1 hc5) cw5_74 m5_lifeWith_in m5_lifeWith_se (by decide) (zhlv Hy.2.1 rfl) rfl (zroom Hy.2.2 ⟨by decide, by decide⟩) rfl (by decide +kernel) ⟨Nat.zero_le _, Nat.zero_le _⟩ ?_
  cases h
  exact zret_i Hy.1 Hy.2.2 hE (by decide +kernel)
def m5_lifeNow (x1 : Int32) (M : cM) : Option (Int32 × cM) := zbd (m3_of x1 M) (fun r1 M1 => zgd (Nat.blt r1 10 && true) ((if (cg M1 2 r1 7) = (-1 : Int32) then m5_lifeNow_22 x1 x1 (0 : Int32) M1 else m5_lifeNow_22 x1 x1 (1 : Int32) M1)))
theorem m5_lifeNow_ok {X : zX} {G : zG} (Hy : zHy X G q5_lifeNow zcC 4 93 (some .int)) {r : Int32} {M' : cM} (hE : zEnd X G (some (.inl r)) (zfC M')) (x1 : Int32) (M : cM) (h : m5_lifeNow x1 M = some (r, M')) : zGo (X, q5_lifeNow, G) 0 0 (0, [(0, .inr (.inr (some (5, 0)))), (1, .inl x1)], [], zfC M) := by
  unfold m5_lifeNow at h
  refine zblq Hy.1 Hy.2.1 [(.aload 0, 1), (.iload 1, 1), (.aload 0, 1), (.getfield 500, 3), (.iload 1, 1)] (S' := (7, [(0, .inr (.inr (some (5, 0)))), (1, .inl x1)], [.inl x1, .inr (.inr (some (3, 0))), .inl x1, .inr (.inr (some (5, 0)))], zfC M)) (b := true) (by decide +kernel) rfl rfl ?_
  obtain ⟨r1, M1, hc1, h⟩ := zbd_inv h
  refine zcallV Hy.1 (as := [.inl x1]) (st := [.inl x1, .inr (.inr (some (5, 0)))]) (m3_of_met (zOK_G Hy.1) Hy.2.1 hc1) cw5_40 m3_of_in m3_of_se (by decide) (zhlv Hy.2.1 rfl) rfl (zroom Hy.2.2 ⟨by decide, by decide⟩) rfl (by decide +kernel) ⟨Nat.zero_le _, Nat.zero_le _⟩ ?_
  obtain ⟨hg2, h⟩ := zgd_inv h
  refine zblq Hy.1 Hy.2.1 [(.multianewarray 2 7, 3), (.iconst (-1), 1)] (S' := (14, [(0, .inr (.inr (some (5, 0)))), (1, .inl x1)], [.inl (-1 : Int32), .inl (cg M1 2 r1 7), .inl x1, .inr (.inr (some (5, 0)))], zfC M1)) (b := Nat.blt r1 10 && true) (by decide +kernel) rfl hg2 ?_
  refine zic_eq Hy.1 (off := 7) (tgt := 21) (by decide +kernel) (by decide) (fun hb6 => ?_) (fun hb6 => ?_)
  · replace h := zite_t h hb6
    refine zblq Hy.1 Hy.2.1 [(.iconst 0, 1)] (S' := (22, [(0, .inr (.inr (some (5, 0)))), (1, .inl x1)], [.inl (0 : Int32), .inl x1, .inr (.inr (some (5, 0)))], zfC M1)) (b := true) (by decide +kernel) rfl rfl ?_
    refine zGo_keep [0, 1] rfl ?_
    exact m5_lifeNow_22_ok Hy hE x1 x1 (0 : Int32) M1 h
  · replace h := zite_f h hb6
    refine zblq Hy.1 Hy.2.1 [(.iconst 1, 1), (.ldc 22, 3)] (S' := (22, [(0, .inr (.inr (some (5, 0)))), (1, .inl x1)], [.inl (1 : Int32), .inl x1, .inr (.inr (some (5, 0)))], zfC M1)) (b := true) (by decide +kernel) rfl rfl ?_
    refine zGo_keep [0, 1] rfl ?_
    exact m5_lifeNow_22_ok Hy hE x1 x1 (1 : Int32) M1 h
theorem m5_lifeNow_met {l : Launch} {G : zG} (hG : zGok G) (hcn : zgcn G = zcC) {x1 : Int32} {M : cM} {r : Int32} {M' : cM} (h : m5_lifeNow x1 M = some (r, M')) : zMet l G yX5_lifeNow cX5_lifeNow 2 (some .int) 4 93 [.inr (.inr (some (5, 0))), .inl x1] (zfC M) (some (.inl r)) (zfC M') :=
  zMet_of hG tbX5_ok rfl (by decide +kernel) (Nat.le_of_ble_eq_true rfl) (fun X _ Z hA hE => m5_lifeNow_ok ⟨Z, hcn, hA⟩ hE x1 M h)
abbrev q11_life : ByteArray × Nat × String × zT := (cX11_life, 2, RX11, tbX11)
def m11_life (x1 : Int32) (M : cM) : Option (Int32 × cM) := zbd (m3_knows x1 M) (fun r1 M1 => (if r1 = 0 then some ((-2 : Int32), M1) else zbd (m5_lifeNow x1 M1) (fun r2 M2 => some (r2, M2))))
theorem m11_life_ok {X : zX} {G : zG} (Hy : zHy X G q11_life zcC 5 114 (some .int)) {r : Int32} {M' : cM} (hE : zEnd X G (some (.inl r)) (zfC M')) (x1 : Int32) (M : cM) (h : m11_life x1 M = some (r, M')) : zGo (X, q11_life, G) 0 0 (0, [(0, .inr (.inr (some (11, 0)))), (1, .inl x1)], [], zfC M) := by
  unfold m11_life at h
  refine zblq Hy.1 Hy.2.1 [(.aload 0, 1), (.getfield 1100, 3), (.iload 1, 1)] (S' := (5, [(0, .inr (.inr (some (11, 0)))), (1, .inl x1)], [.inl x1, .inr (.inr (some (3, 0)))], zfC M)) (b := true) (by decide +kernel) rfl rfl ?_
  obtain ⟨r1, M1, hc1, h⟩ := zbd_inv h
  refine zcallV Hy.1 (as := [.inl x1]) (st := []) (m3_knows_met (zOK_G Hy.1) Hy.2.1 hc1) cw11_74 m3_knows_in m3_knows_se (by decide) (zhlv Hy.2.1 rfl) rfl (zroom Hy.2.2 ⟨by decide, by decide⟩) rfl (by decide +kernel) ⟨Nat.zero_le _, Nat.zero_le _⟩ ?_
  refine zif_ne Hy.1 (off := 6) (tgt := 14) (by decide +kernel) (by decide) (fun hb3 => ?_) (fun hb3 => ?_)
  · replace h := zite_f h hb3
    refine zblq Hy.1 Hy.2.1 [(.aload 0, 1), (.getfield 1103, 3), (.iload 1, 1)] (S' := (19, [(0, .inr (.inr (some (11, 0)))), (1, .inl x1)], [.inl x1, .inr (.inr (some (5, 0)))], zfC M1)) (b := true) (by decide +kernel) rfl rfl ?_
    obtain ⟨r2, M2, hc2, h⟩ := zbd_inv h
    refine zcallV Hy.1 (as := [.inl x1]) (st := []) (m5_lifeNow_met (zOK_G Hy.1) Hy.2.1 hc2) cw11_230 m5_lifeNow_in m5_lifeNow_se (by decide) (zhlv Hy.2.1 rfl) rfl (zroom Hy.2.2 ⟨by decide, by decide⟩) rfl (by decide +kernel) ⟨Nat.zero_le _, Nat.zero_le _⟩ ?_
    cases h
    exact zret_i Hy.1 Hy.2.2 hE (by decide +kernel)
  · replace h := zite_t h hb3
    refine zblq Hy.1 Hy.2.1 [(.iconst (-2), 2)] (S' := (13, [(0, .inr (.inr (some (11, 0)))), (1, .inl x1)], [.inl (-2 : Int32)], zfC M1)) (b := true) (by decide +kernel) rfl rfl ?_
    cases h
    exact zret_i Hy.1 Hy.2.2 hE (by decide +kernel)
theorem m11_life_met {l : Launch} {G : zG} (hG : zGok G) (hcn : zgcn G = zcC) {x1 : Int32} {M : cM} {r : Int32} {M' : cM} (h : m11_life x1 M = some (r, M')) : zMet l G yX11_life cX11_life 2 (some .int) 5 114 [.inr (.inr (some (11, 0))), .inl x1] (zfC M) (some (.inl r)) (zfC M') :=
  zMet_of hG tbX11_ok rfl (by decide +kernel) (Nat.le_of_ble_eq_true rfl) (fun X _ Z hA hE => m11_life_ok ⟨Z, hcn, hA⟩ hE x1 M h)
abbrev qJ7_fill_606 : ByteArray × Nat × String × zT := (cJ7_fill_53178, 4, RJ7, tbJ7)
def mJ7_fill_606_5 : Nat → Int32 → Int32 → Int32 → cM → Option cM
  | 0, _, _, _, _ => none
  | n + 1, x1, x2, x3, M => (if x3 ≤ x2 then some M else zgd (zin x2 10 && true) ((mJ7_fill_606_5 n) x1 (x2 + (1 : Int32)) x3 (cs M 606 0 (nx x2) x1)))
theorem mJ7_fill_606_5_ok {X : zX} {G : zG} (Hy : zHy X G qJ7_fill_606 zcC 0 0 (none)) {M' : cM} (hE : zEnd X G (none) (zfC M')) : ∀ (n : Nat) (x1 : Int32) (x2 : Int32) (x3 : Int32) (M : cM), mJ7_fill_606_5 n x1 x2 x3 M = some M' → zGo (X, qJ7_fill_606, G) 0 0 (5, [(0, .inr (.inr (some (606, 0)))), (1, .inl x1), (2, .inl x2), (3, .inl x3)], [], zfC M) := by
  intro n
  induction n with
  | zero => intro x1 x2 x3 M h; cases h
  | succ n ih =>
    intro x1 x2 x3 M h
    unfold mJ7_fill_606_5 at h
    refine zblq Hy.1 Hy.2.1 [(.iload 2, 1), (.iload 3, 1)] (S' := (7, [(0, .inr (.inr (some (606, 0)))), (1, .inl x1), (2, .inl x2), (3, .inl x3)], [.inl x3, .inl x2], zfC M)) (b := true) (by decide +kernel) rfl rfl ?_
    refine zic_ge Hy.1 (off := 13) (tgt := 20) (by decide +kernel) (by decide) (fun hb2 => ?_) (fun hb2 => ?_)
    · replace h := zite_t h hb2
      cases h
      exact zret_v Hy.1 Hy.2.2 hE (by decide +kernel)
    · replace h := zite_f h hb2
      obtain ⟨hg1, h⟩ := zgd_inv h
      refine zblq Hy.1 Hy.2.1 [(.aload 0, 1), (.iload 2, 1), (.iload 1, 1), (.iastore, 1), (.iinc 2 1, 3), (.ldc 5, 3)] (S' := (5, [(0, .inr (.inr (some (606, 0)))), (1, .inl x1), (2, .inl (x2 + (1 : Int32))), (3, .inl x3)], [], zfC (cs M 606 0 (nx x2) x1))) (b := zin x2 10 && true) (by decide +kernel) rfl hg1 ?_
      refine zGo_keep [0, 1, 2, 3] rfl ?_
      exact ih x1 (x2 + (1 : Int32)) x3 (cs M 606 0 (nx x2) x1) h
def mJ7_fill_606 (x1 : Int32) (M : cM) : Option cM := mJ7_fill_606_5 zfu x1 (0 : Int32) (10 : Int32) M
theorem mJ7_fill_606_ok {X : zX} {G : zG} (Hy : zHy X G qJ7_fill_606 zcC 0 0 (none)) {M' : cM} (hE : zEnd X G (none) (zfC M')) (x1 : Int32) (M : cM) (h : mJ7_fill_606 x1 M = some M') : zGo (X, qJ7_fill_606, G) 0 0 (0, [(0, .inr (.inr (some (606, 0)))), (1, .inl x1)], [], zfC M) := by
  unfold mJ7_fill_606 at h
  refine zblq Hy.1 Hy.2.1 [(.iconst 0, 1), (.istore 2, 1), (.aload 0, 1), (.arraylength, 1), (.istore 3, 1)] (S' := (5, [(0, .inr (.inr (some (606, 0)))), (1, .inl x1), (2, .inl (0 : Int32)), (3, .inl (10 : Int32))], [], zfC M)) (b := true) (by decide +kernel) rfl rfl ?_
  refine zGo_keep [0, 1, 2, 3] rfl ?_
  exact mJ7_fill_606_5_ok Hy hE zfu x1 (0 : Int32) (10 : Int32) M h
theorem mJ7_fill_606_met {l : Launch} {G : zG} (hG : zGok G) (hcn : zgcn G = zcC) {x1 : Int32} {M : cM} {M' : cM} (h : mJ7_fill_606 x1 M = some M') : zMet l G yJ7_fill_53178 cJ7_fill_53178 4 (none) 0 0 [.inr (.inr (some (606, 0))), .inl x1] (zfC M) (none) (zfC M') :=
  zMet_ofF hG tbJ7_ok rfl (by decide +kernel) (Nat.le_of_ble_eq_true rfl) (fun X _ Z hA hE => mJ7_fill_606_ok ⟨Z, hcn, hA⟩ hE x1 M h)
abbrev qJ7_fill_603 : ByteArray × Nat × String × zT := (cJ7_fill_53178, 4, RJ7, tbJ7)
def mJ7_fill_603_5 : Nat → Int32 → Int32 → Int32 → cM → Option cM
  | 0, _, _, _, _ => none
  | n + 1, x1, x2, x3, M => (if x3 ≤ x2 then some M else zgd (zin x2 10 && true) ((mJ7_fill_603_5 n) x1 (x2 + (1 : Int32)) x3 (cs M 603 0 (nx x2) x1)))
theorem mJ7_fill_603_5_ok {X : zX} {G : zG} (Hy : zHy X G qJ7_fill_603 zcC 0 0 (none)) {M' : cM} (hE : zEnd X G (none) (zfC M')) : ∀ (n : Nat) (x1 : Int32) (x2 : Int32) (x3 : Int32) (M : cM), mJ7_fill_603_5 n x1 x2 x3 M = some M' → zGo (X, qJ7_fill_603, G) 0 0 (5, [(0, .inr (.inr (some (603, 0)))), (1, .inl x1), (2, .inl x2), (3, .inl x3)], [], zfC M) := by
  intro n
  induction n with
  | zero => intro x1 x2 x3 M h; cases h
  | succ n ih =>
    intro x1 x2 x3 M h
    unfold mJ7_fill_603_5 at h
    refine zblq Hy.1 Hy.2.1 [(.iload 2, 1), (.iload 3, 1)] (S' := (7, [(0, .inr (.inr (some (603, 0)))), (1, .inl x1), (2, .inl x2), (3, .inl x3)], [.inl x3, .inl x2], zfC M)) (b := true) (by decide +kernel) rfl rfl ?_
    refine zic_ge Hy.1 (off := 13) (tgt := 20) (by decide +kernel) (by decide) (fun hb2 => ?_) (fun hb2 => ?_)
    · replace h := zite_t h hb2
      cases h
      exact zret_v Hy.1 Hy.2.2 hE (by decide +kernel)
    · replace h := zite_f h hb2
      obtain ⟨hg1, h⟩ := zgd_inv h
      refine zblq Hy.1 Hy.2.1 [(.aload 0, 1), (.iload 2, 1), (.iload 1, 1), (.iastore, 1), (.iinc 2 1, 3), (.ldc 5, 3)] (S' := (5, [(0, .inr (.inr (some (603, 0)))), (1, .inl x1), (2, .inl (x2 + (1 : Int32))), (3, .inl x3)], [], zfC (cs M 603 0 (nx x2) x1))) (b := zin x2 10 && true) (by decide +kernel) rfl hg1 ?_
      refine zGo_keep [0, 1, 2, 3] rfl ?_
      exact ih x1 (x2 + (1 : Int32)) x3 (cs M 603 0 (nx x2) x1) h
def mJ7_fill_603 (x1 : Int32) (M : cM) : Option cM := mJ7_fill_603_5 zfu x1 (0 : Int32) (10 : Int32) M
theorem mJ7_fill_603_ok {X : zX} {G : zG} (Hy : zHy X G qJ7_fill_603 zcC 0 0 (none)) {M' : cM} (hE : zEnd X G (none) (zfC M')) (x1 : Int32) (M : cM) (h : mJ7_fill_603 x1 M = some M') : zGo (X, qJ7_fill_603, G) 0 0 (0, [(0, .inr (.inr (some (603, 0)))), (1, .inl x1)], [], zfC M) := by
  unfold mJ7_fill_603 at h
  refine zblq Hy.1 Hy.2.1 [(.iconst 0, 1), (.istore 2, 1), (.aload 0, 1), (.arraylength, 1), (.istore 3, 1)] (S' := (5, [(0, .inr (.inr (some (603, 0)))), (1, .inl x1), (2, .inl (0 : Int32)), (3, .inl (10 : Int32))], [], zfC M)) (b := true) (by decide +kernel) rfl rfl ?_
  refine zGo_keep [0, 1, 2, 3] rfl ?_
  exact mJ7_fill_603_5_ok Hy hE zfu x1 (0 : Int32) (10 : Int32) M h
theorem mJ7_fill_603_met {l : Launch} {G : zG} (hG : zGok G) (hcn : zgcn G = zcC) {x1 : Int32} {M : cM} {M' : cM} (h : mJ7_fill_603 x1 M = some M') : zMet l G yJ7_fill_53178 cJ7_fill_53178 4 (none) 0 0 [.inr (.inr (some (603, 0))), .inl x1] (zfC M) (none) (zfC M') :=
  zMet_ofF hG tbJ7_ok rfl (by decide +kernel) (Nat.le_of_ble_eq_true rfl) (fun X _ Z hA hE => mJ7_fill_603_ok ⟨Z, hcn, hA⟩ hE x1 M h)
abbrev q5_boxesAt : ByteArray × Nat × String × zT := (cX5_boxesAt, 4, RX5, tbX5)
def m5_boxesAt_37 (k4 : Int32 → Int32 → Int32 → cM → Option (Int32 × cM)) (x1 : Int32) (x2 : Int32) (x3 : Int32) (M : cM) : Option (Int32 × cM) := k4 x1 x2 (x3 + (1 : Int32)) M
theorem m5_boxesAt_37_ok {X : zX} {G : zG} (Hy : zHy X G q5_boxesAt zcC 0 0 (some .int)) {r : Int32} {M' : cM} (hE : zEnd X G (some (.inl r)) (zfC M')) {k4 : Int32 → Int32 → Int32 → cM → Option (Int32 × cM)} (hk4 : ∀ (x1 : Int32) (x2 : Int32) (x3 : Int32) (M : cM), k4 x1 x2 x3 M = some (r, M') → zGo (X, q5_boxesAt, G) 0 0 (4, [(0, .inr (.inr (some (5, 0)))), (1, .inl x1), (2, .inl x2), (3, .inl x3)], [], zfC M)) (x1 : Int32) (x2 : Int32) (x3 : Int32) (M : cM) (h : m5_boxesAt_37 k4 x1 x2 x3 M = some (r, M')) : zGo (X, q5_boxesAt, G) 0 0 (37, [(0, .inr (.inr (some (5, 0)))), (1, .inl x1), (2, .inl x2), (3, .inl x3)], [], zfC M) := by
  unfold m5_boxesAt_37 at h
  refine zblq Hy.1 Hy.2.1 [(.iinc 3 1, 3), (.ldc 4, 3)] (S' := (4, [(0, .inr (.inr (some (5, 0)))), (1, .inl x1), (2, .inl x2), (3, .inl (x3 + (1 : Int32)))], [], zfC M)) (b := true) (by decide +kernel) rfl rfl ?_
  refine zGo_keep [0, 1, 2, 3] rfl ?_
  exact hk4 x1 x2 (x3 + (1 : Int32)) M h
def m5_boxesAt_4 : Nat → Int32 → Int32 → Int32 → cM → Option (Int32 × cM)
  | 0, _, _, _, _ => none
  | n + 1, x1, x2, x3, M => (if (cg M 3 0 4) ≤ x3 then some (x2, M) else (if (10 : Int32) ≤ x3 then some (x2, M) else zgd (zin x3 10 && true) ((if (cg M 603 0 (nx x3)) = x1 then m5_boxesAt_37 (m5_boxesAt_4 n) x1 (x2 ||| (zshl (1 : Int32) x3)) x3 M else m5_boxesAt_37 (m5_boxesAt_4 n) x1 x2 x3 M))))
theorem m5_boxesAt_4_ok {X : zX} {G : zG} (Hy : zHy X G q5_boxesAt zcC 0 0 (some .int)) {r : Int32} {M' : cM} (hE : zEnd X G (some (.inl r)) (zfC M')) : ∀ (n : Nat) (x1 : Int32) (x2 : Int32) (x3 : Int32) (M : cM), m5_boxesAt_4 n x1 x2 x3 M = some (r, M') → zGo (X, q5_boxesAt, G) 0 0 (4, [(0, .inr (.inr (some (5, 0)))), (1, .inl x1), (2, .inl x2), (3, .inl x3)], [], zfC M) := by
  intro n
  induction n with
  | zero => intro x1 x2 x3 M h; cases h
  | succ n ih =>
    intro x1 x2 x3 M h
    unfold m5_boxesAt_4 at h
    refine zblq Hy.1 Hy.2.1 [(.iload 3, 1), (.aload 0, 1), (.getfield 500, 3), (.multianewarray 3 4, 3)] (S' := (12, [(0, .inr (.inr (some (5, 0)))), (1, .inl x1), (2, .inl x2), (3, .inl x3)], [.inl (cg M 3 0 4), .inl x3], zfC M)) (b := true) (by decide +kernel) rfl rfl ?_
    refine zic_ge Hy.1 (off := 31) (tgt := 43) (by decide +kernel) (by decide) (fun hb4 => ?_) (fun hb4 => ?_)
    · replace h := zite_t h hb4
      refine zblq Hy.1 Hy.2.1 [(.iload 2, 1)] (S' := (44, [(0, .inr (.inr (some (5, 0)))), (1, .inl x1), (2, .inl x2), (3, .inl x3)], [.inl x2], zfC M)) (b := true) (by decide +kernel) rfl rfl ?_
      cases h
      exact zret_i Hy.1 Hy.2.2 hE (by decide +kernel)
    · replace h := zite_f h hb4
      refine zblq Hy.1 Hy.2.1 [(.iload 3, 1), (.iconst 10, 2)] (S' := (18, [(0, .inr (.inr (some (5, 0)))), (1, .inl x1), (2, .inl x2), (3, .inl x3)], [.inl (10 : Int32), .inl x3], zfC M)) (b := true) (by decide +kernel) rfl rfl ?_
      refine zic_ge Hy.1 (off := 25) (tgt := 43) (by decide +kernel) (by decide) (fun hb3 => ?_) (fun hb3 => ?_)
      · replace h := zite_t h hb3
        refine zblq Hy.1 Hy.2.1 [(.iload 2, 1)] (S' := (44, [(0, .inr (.inr (some (5, 0)))), (1, .inl x1), (2, .inl x2), (3, .inl x3)], [.inl x2], zfC M)) (b := true) (by decide +kernel) rfl rfl ?_
        cases h
        exact zret_i Hy.1 Hy.2.2 hE (by decide +kernel)
      · replace h := zite_f h hb3
        obtain ⟨hg1, h⟩ := zgd_inv h
        refine zblq Hy.1 Hy.2.1 [(.aload 0, 1), (.getfield 503, 3), (.iload 3, 1), (.iaload, 1), (.iload 1, 1)] (S' := (28, [(0, .inr (.inr (some (5, 0)))), (1, .inl x1), (2, .inl x2), (3, .inl x3)], [.inl x1, .inl (cg M 603 0 (nx x3))], zfC M)) (b := zin x3 10 && true) (by decide +kernel) rfl hg1 ?_
        refine zic_ne Hy.1 (off := 9) (tgt := 37) (by decide +kernel) (by decide) (fun hb2 => ?_) (fun hb2 => ?_)
        · replace h := zite_f h hb2
          refine zGo_keep [0, 1, 2, 3] rfl ?_
          exact m5_boxesAt_37_ok Hy hE ih x1 x2 x3 M h
        · replace h := zite_t h hb2
          refine zblq Hy.1 Hy.2.1 [(.iload 2, 1), (.iconst 1, 1), (.iload 3, 1), (.ishl, 1), (.ior, 1), (.istore 2, 1)] (S' := (37, [(0, .inr (.inr (some (5, 0)))), (1, .inl x1), (2, .inl (x2 ||| (zshl (1 : Int32) x3))), (3, .inl x3)], [], zfC M)) (b := true) (by decide +kernel) rfl rfl ?_
          refine zGo_keep [0, 1, 2, 3] rfl ?_
          exact m5_boxesAt_37_ok Hy hE ih x1 (x2 ||| (zshl (1 : Int32) x3)) x3 M h
def m5_boxesAt (x1 : Int32) (M : cM) : Option (Int32 × cM) := m5_boxesAt_4 zfu x1 (0 : Int32) (0 : Int32) M
theorem m5_boxesAt_ok {X : zX} {G : zG} (Hy : zHy X G q5_boxesAt zcC 0 0 (some .int)) {r : Int32} {M' : cM} (hE : zEnd X G (some (.inl r)) (zfC M')) (x1 : Int32) (M : cM) (h : m5_boxesAt x1 M = some (r, M')) : zGo (X, q5_boxesAt, G) 0 0 (0, [(0, .inr (.inr (some (5, 0)))), (1, .inl x1)], [], zfC M) := by
  unfold m5_boxesAt at h
  refine zblq Hy.1 Hy.2.1 [(.iconst 0, 1), (.istore 2, 1), (.iconst 0, 1), (.istore 3, 1)] (S' := (4, [(0, .inr (.inr (some (5, 0)))), (1, .inl x1), (2, .inl (0 : Int32)), (3, .inl (0 : Int32))], [], zfC M)) (b := true) (by decide +kernel) rfl rfl ?_
  refine zGo_keep [0, 1, 2, 3] rfl ?_
  exact m5_boxesAt_4_ok Hy hE zfu x1 (0 : Int32) (0 : Int32) M h
theorem m5_boxesAt_met {l : Launch} {G : zG} (hG : zGok G) (hcn : zgcn G = zcC) {x1 : Int32} {M : cM} {r : Int32} {M' : cM} (h : m5_boxesAt x1 M = some (r, M')) : zMet l G yX5_boxesAt cX5_boxesAt 4 (some .int) 0 0 [.inr (.inr (some (5, 0))), .inl x1] (zfC M) (some (.inl r)) (zfC M') :=
  zMet_of hG tbX5_ok rfl (by decide +kernel) (Nat.le_of_ble_eq_true rfl) (fun X _ Z hA hE => m5_boxesAt_ok ⟨Z, hcn, hA⟩ hE x1 M h)
abbrev q5_findSteps : ByteArray × Nat × String × zT := (cX5_findSteps, 4, RX5, tbX5)
def m5_findSteps_109 (k24 : Int32 → Int32 → cM → Option cM) (x1 : Int32) (x2 : Int32) (M : cM) : Option cM := k24 x1 (x2 + (1 : Int32)) M
theorem m5_findSteps_109_ok {X : zX} {G : zG} (Hy : zHy X G q5_findSteps zcC 2 44 (none)) {M' : cM} (hE : zEnd X G (none) (zfC M')) {k24 : Int32 → Int32 → cM → Option cM} (hk24 : ∀ (x1 : Int32) (x2 : Int32) (M : cM), k24 x1 x2 M = some M' → zGo (X, q5_findSteps, G) 0 0 (24, [(0, .inr (.inr (some (5, 0)))), (1, .inl x1), (2, .inl x2)], [], zfC M)) (x1 : Int32) (x2 : Int32) (M : cM) (h : m5_findSteps_109 k24 x1 x2 M = some M') : zGo (X, q5_findSteps, G) 0 0 (109, [(0, .inr (.inr (some (5, 0)))), (1, .inl x1), (2, .inl x2)], [], zfC M) := by
  unfold m5_findSteps_109 at h
  refine zblq Hy.1 Hy.2.1 [(.iinc 2 1, 3), (.ldc 24, 3)] (S' := (24, [(0, .inr (.inr (some (5, 0)))), (1, .inl x1), (2, .inl (x2 + (1 : Int32)))], [], zfC M)) (b := true) (by decide +kernel) rfl rfl ?_
  refine zGo_keep [0, 1, 2] rfl ?_
  exact hk24 x1 (x2 + (1 : Int32)) M h
def m5_findSteps_103 (k24 : Int32 → Int32 → cM → Option cM) (k37 : Int32 → Int32 → Int32 → cM → Option cM) (x1 : Int32) (x2 : Int32) (x3 : Int32) (M : cM) : Option cM := k37 x1 x2 (x3 + (1 : Int32)) M
theorem m5_findSteps_103_ok {X : zX} {G : zG} (Hy : zHy X G q5_findSteps zcC 2 44 (none)) {M' : cM} (hE : zEnd X G (none) (zfC M')) {k24 : Int32 → Int32 → cM → Option cM} (hk24 : ∀ (x1 : Int32) (x2 : Int32) (M : cM), k24 x1 x2 M = some M' → zGo (X, q5_findSteps, G) 0 0 (24, [(0, .inr (.inr (some (5, 0)))), (1, .inl x1), (2, .inl x2)], [], zfC M)) {k37 : Int32 → Int32 → Int32 → cM → Option cM} (hk37 : ∀ (x1 : Int32) (x2 : Int32) (x3 : Int32) (M : cM), k37 x1 x2 x3 M = some M' → zGo (X, q5_findSteps, G) 0 0 (37, [(0, .inr (.inr (some (5, 0)))), (1, .inl x1), (2, .inl x2), (3, .inl x3)], [], zfC M)) (x1 : Int32) (x2 : Int32) (x3 : Int32) (M : cM) (h : m5_findSteps_103 k24 k37 x1 x2 x3 M = some M') : zGo (X, q5_findSteps, G) 0 0 (103, [(0, .inr (.inr (some (5, 0)))), (1, .inl x1), (2, .inl x2), (3, .inl x3)], [], zfC M) := by
  unfold m5_findSteps_103 at h
  refine zblq Hy.1 Hy.2.1 [(.iinc 3 1, 3), (.ldc 37, 3)] (S' := (37, [(0, .inr (.inr (some (5, 0)))), (1, .inl x1), (2, .inl x2), (3, .inl (x3 + (1 : Int32)))], [], zfC M)) (b := true) (by decide +kernel) rfl rfl ?_
  refine zGo_keep [0, 1, 2, 3] rfl ?_
  exact hk37 x1 x2 (x3 + (1 : Int32)) M h
def m5_findSteps_37 (k24 : Int32 → Int32 → cM → Option cM) : Nat → Int32 → Int32 → Int32 → cM → Option cM
  | 0, _, _, _, _ => none
  | n + 1, x1, x2, x3, M => (if (cg M 3 0 4) ≤ x3 then m5_findSteps_109 k24 x1 x2 M else (if (10 : Int32) ≤ x3 then m5_findSteps_109 k24 x1 x2 M else (if ((zshr x1 x3) &&& (1 : Int32)) = 0 then m5_findSteps_103 k24 (m5_findSteps_37 k24 n) x1 x2 x3 M else zgd (zin x3 10 && true) ((if (cg M 603 0 (nx x3)) = (-1 : Int32) then zbd (m3_friends x3 M) (fun r4 M4 => zbd (m5_boxesAt x2 M4) (fun r5 M5 => (if ((r4 &&& x1) &&& r5) = 0 then m5_findSteps_103 k24 (m5_findSteps_37 k24 n) x1 x2 x3 M5 else zgd (zin x3 10 && true) (m5_findSteps_103 k24 (m5_findSteps_37 k24 n) x1 x2 x3 (cs M5 603 0 (nx x3) (x2 + (1 : Int32))))))) else m5_findSteps_103 k24 (m5_findSteps_37 k24 n) x1 x2 x3 M)))))
theorem m5_findSteps_37_ok {X : zX} {G : zG} (Hy : zHy X G q5_findSteps zcC 2 44 (none)) {M' : cM} (hE : zEnd X G (none) (zfC M')) {k24 : Int32 → Int32 → cM → Option cM} (hk24 : ∀ (x1 : Int32) (x2 : Int32) (M : cM), k24 x1 x2 M = some M' → zGo (X, q5_findSteps, G) 0 0 (24, [(0, .inr (.inr (some (5, 0)))), (1, .inl x1), (2, .inl x2)], [], zfC M)) : ∀ (n : Nat) (x1 : Int32) (x2 : Int32) (x3 : Int32) (M : cM), m5_findSteps_37 k24 n x1 x2 x3 M = some M' → zGo (X, q5_findSteps, G) 0 0 (37, [(0, .inr (.inr (some (5, 0)))), (1, .inl x1), (2, .inl x2), (3, .inl x3)], [], zfC M) := by
  intro n
  induction n with
  | zero => intro x1 x2 x3 M h; cases h
  | succ n ih =>
    intro x1 x2 x3 M h
    unfold m5_findSteps_37 at h
    refine zblq Hy.1 Hy.2.1 [(.iload 3, 1), (.aload 0, 1), (.getfield 500, 3), (.multianewarray 3 4, 3)] (S' := (45, [(0, .inr (.inr (some (5, 0)))), (1, .inl x1), (2, .inl x2), (3, .inl x3)], [.inl (cg M 3 0 4), .inl x3], zfC M)) (b := true) (by decide +kernel) rfl rfl ?_
    refine zic_ge Hy.1 (off := 64) (tgt := 109) (by decide +kernel) (by decide) (fun hb11 => ?_) (fun hb11 => ?_)
    · replace h := zite_t h hb11
      refine zGo_keep [0, 1, 2] rfl ?_
      exact m5_findSteps_109_ok Hy hE hk24 x1 x2 M h
    · replace h := zite_f h hb11
      refine zblq Hy.1 Hy.2.1 [(.iload 3, 1), (.iconst 10, 2)] (S' := (51, [(0, .inr (.inr (some (5, 0)))), (1, .inl x1), (2, .inl x2), (3, .inl x3)], [.inl (10 : Int32), .inl x3], zfC M)) (b := true) (by decide +kernel) rfl rfl ?_
      refine zic_ge Hy.1 (off := 58) (tgt := 109) (by decide +kernel) (by decide) (fun hb10 => ?_) (fun hb10 => ?_)
      · replace h := zite_t h hb10
        refine zGo_keep [0, 1, 2] rfl ?_
        exact m5_findSteps_109_ok Hy hE hk24 x1 x2 M h
      · replace h := zite_f h hb10
        refine zblq Hy.1 Hy.2.1 [(.iload 1, 1), (.iload 3, 1), (.ishr, 1), (.iconst 1, 1), (.iand, 1)] (S' := (59, [(0, .inr (.inr (some (5, 0)))), (1, .inl x1), (2, .inl x2), (3, .inl x3)], [.inl ((zshr x1 x3) &&& (1 : Int32))], zfC M)) (b := true) (by decide +kernel) rfl rfl ?_
        refine zif_eq Hy.1 (off := 44) (tgt := 103) (by decide +kernel) (by decide) (fun hb9 => ?_) (fun hb9 => ?_)
        · replace h := zite_t h hb9
          refine zGo_keep [0, 1, 2, 3] rfl ?_
          exact m5_findSteps_103_ok Hy hE hk24 ih x1 x2 x3 M h
        · replace h := zite_f h hb9
          obtain ⟨hg3, h⟩ := zgd_inv h
          refine zblq Hy.1 Hy.2.1 [(.aload 0, 1), (.getfield 503, 3), (.iload 3, 1), (.iaload, 1), (.iconst (-1), 1)] (S' := (69, [(0, .inr (.inr (some (5, 0)))), (1, .inl x1), (2, .inl x2), (3, .inl x3)], [.inl (-1 : Int32), .inl (cg M 603 0 (nx x3))], zfC M)) (b := zin x3 10 && true) (by decide +kernel) rfl hg3 ?_
          refine zic_eq Hy.1 (off := 6) (tgt := 75) (by decide +kernel) (by decide) (fun hb8 => ?_) (fun hb8 => ?_)
          · replace h := zite_t h hb8
            refine zblq Hy.1 Hy.2.1 [(.aload 0, 1), (.getfield 500, 3), (.iload 3, 1)] (S' := (80, [(0, .inr (.inr (some (5, 0)))), (1, .inl x1), (2, .inl x2), (3, .inl x3)], [.inl x3, .inr (.inr (some (3, 0)))], zfC M)) (b := true) (by decide +kernel) rfl rfl ?_
            obtain ⟨r4, M4, hc4, h⟩ := zbd_inv h
            refine zcallV Hy.1 (as := [.inl x3]) (st := []) (m3_friends_met (zOK_G Hy.1) Hy.2.1 hc4) cw5_117 m3_friends_in m3_friends_se (by decide) (zhlv Hy.2.1 rfl) rfl (zroom Hy.2.2 ⟨by decide, by decide⟩) rfl (by decide +kernel) ⟨Nat.zero_le _, Nat.zero_le _⟩ ?_
            refine zblq Hy.1 Hy.2.1 [(.iload 1, 1), (.iand, 1), (.aload 0, 1), (.iload 2, 1)] (S' := (87, [(0, .inr (.inr (some (5, 0)))), (1, .inl x1), (2, .inl x2), (3, .inl x3)], [.inl x2, .inr (.inr (some (5, 0))), .inl (r4 &&& x1)], zfC M4)) (b := true) (by decide +kernel) rfl rfl ?_
            obtain ⟨r5, M5, hc5, h⟩ := zbd_inv h
            refine zcallV Hy.1 (as := [.inl x2]) (st := [.inl (r4 &&& x1)]) (m5_boxesAt_met (zOK_G Hy.1) Hy.2.1 hc5) cw5_120 m5_boxesAt_in m5_boxesAt_se (by decide) (zhlv Hy.2.1 rfl) rfl (zroom Hy.2.2 ⟨by decide, by decide⟩) rfl (by decide +kernel) ⟨Nat.zero_le _, Nat.zero_le _⟩ ?_
            refine zblq Hy.1 Hy.2.1 [(.iand, 1)] (S' := (91, [(0, .inr (.inr (some (5, 0)))), (1, .inl x1), (2, .inl x2), (3, .inl x3)], [.inl ((r4 &&& x1) &&& r5)], zfC M5)) (b := true) (by decide +kernel) rfl rfl ?_
            refine zif_eq Hy.1 (off := 12) (tgt := 103) (by decide +kernel) (by decide) (fun hb7 => ?_) (fun hb7 => ?_)
            · replace h := zite_t h hb7
              refine zGo_keep [0, 1, 2, 3] rfl ?_
              exact m5_findSteps_103_ok Hy hE hk24 ih x1 x2 x3 M5 h
            · replace h := zite_f h hb7
              obtain ⟨hg6, h⟩ := zgd_inv h
              refine zblq Hy.1 Hy.2.1 [(.aload 0, 1), (.getfield 503, 3), (.iload 3, 1), (.iload 2, 1), (.iconst 1, 1), (.iadd, 1), (.iastore, 1)] (S' := (103, [(0, .inr (.inr (some (5, 0)))), (1, .inl x1), (2, .inl x2), (3, .inl x3)], [], zfC (cs M5 603 0 (nx x3) (x2 + (1 : Int32))))) (b := zin x3 10 && true) (by decide +kernel) rfl hg6 ?_
              refine zGo_keep [0, 1, 2, 3] rfl ?_
              exact m5_findSteps_103_ok Hy hE hk24 ih x1 x2 x3 (cs M5 603 0 (nx x3) (x2 + (1 : Int32))) h
          · replace h := zite_f h hb8
            refine zblq Hy.1 Hy.2.1 [(.ldc 103, 3)] (S' := (103, [(0, .inr (.inr (some (5, 0)))), (1, .inl x1), (2, .inl x2), (3, .inl x3)], [], zfC M)) (b := true) (by decide +kernel) rfl rfl ?_
            refine zGo_keep [0, 1, 2, 3] rfl ?_
            exact m5_findSteps_103_ok Hy hE hk24 ih x1 x2 x3 M h
def m5_findSteps_24 : Nat → Int32 → Int32 → cM → Option cM
  | 0, _, _, _ => none
  | n + 1, x1, x2, M => (if (cg M 3 0 4) ≤ x2 then some M else m5_findSteps_37 (m5_findSteps_24 n) zfu x1 x2 (1 : Int32) M)
theorem m5_findSteps_24_ok {X : zX} {G : zG} (Hy : zHy X G q5_findSteps zcC 2 44 (none)) {M' : cM} (hE : zEnd X G (none) (zfC M')) : ∀ (n : Nat) (x1 : Int32) (x2 : Int32) (M : cM), m5_findSteps_24 n x1 x2 M = some M' → zGo (X, q5_findSteps, G) 0 0 (24, [(0, .inr (.inr (some (5, 0)))), (1, .inl x1), (2, .inl x2)], [], zfC M) := by
  intro n
  induction n with
  | zero => intro x1 x2 M h; cases h
  | succ n ih =>
    intro x1 x2 M h
    unfold m5_findSteps_24 at h
    refine zblq Hy.1 Hy.2.1 [(.iload 2, 1), (.aload 0, 1), (.getfield 500, 3), (.multianewarray 3 4, 3)] (S' := (32, [(0, .inr (.inr (some (5, 0)))), (1, .inl x1), (2, .inl x2)], [.inl (cg M 3 0 4), .inl x2], zfC M)) (b := true) (by decide +kernel) rfl rfl ?_
    refine zic_ge Hy.1 (off := 83) (tgt := 115) (by decide +kernel) (by decide) (fun hb12 => ?_) (fun hb12 => ?_)
    · replace h := zite_t h hb12
      cases h
      exact zret_v Hy.1 Hy.2.2 hE (by decide +kernel)
    · replace h := zite_f h hb12
      refine zblq Hy.1 Hy.2.1 [(.iconst 1, 1), (.istore 3, 1)] (S' := (37, [(0, .inr (.inr (some (5, 0)))), (1, .inl x1), (2, .inl x2), (3, .inl (1 : Int32))], [], zfC M)) (b := true) (by decide +kernel) rfl rfl ?_
      refine zGo_keep [0, 1, 2, 3] rfl ?_
      exact m5_findSteps_37_ok Hy hE ih zfu x1 x2 (1 : Int32) M h
def m5_findSteps (x1 : Int32) (M : cM) : Option cM := zbv (mJ7_fill_603 (-1 : Int32) M) (fun M1 => (if (x1 &&& (1 : Int32)) = 0 then some M1 else zgd (zin (0 : Int32) 10 && true) (m5_findSteps_24 zfu x1 (0 : Int32) (cs M1 603 0 (nx (0 : Int32)) (0 : Int32)))))
theorem m5_findSteps_ok {X : zX} {G : zG} (Hy : zHy X G q5_findSteps zcC 2 44 (none)) {M' : cM} (hE : zEnd X G (none) (zfC M')) (x1 : Int32) (M : cM) (h : m5_findSteps x1 M = some M') : zGo (X, q5_findSteps, G) 0 0 (0, [(0, .inr (.inr (some (5, 0)))), (1, .inl x1)], [], zfC M) := by
  unfold m5_findSteps at h
  refine zblq Hy.1 Hy.2.1 [(.aload 0, 1), (.getfield 503, 3), (.iconst (-1), 1)] (S' := (5, [(0, .inr (.inr (some (5, 0)))), (1, .inl x1)], [.inl (-1 : Int32), .inr (.inr (some (603, 0)))], zfC M)) (b := true) (by decide +kernel) rfl rfl ?_
  obtain ⟨M1, hc1, h⟩ := zbv_inv h
  refine zcallS Hy.1 (as := [.inr (.inr (some (603, 0))), .inl (-1 : Int32)]) (st := []) (mJ7_fill_603_met (zOK_G Hy.1) Hy.2.1 hc1) cw5_78 mJ7_fill_in rfl (zroom Hy.2.2 ⟨by decide, by decide⟩) rfl (by decide +kernel) ⟨Nat.zero_le _, Nat.zero_le _⟩ ?_
  refine zblq Hy.1 Hy.2.1 [(.iload 1, 1), (.iconst 1, 1), (.iand, 1)] (S' := (11, [(0, .inr (.inr (some (5, 0)))), (1, .inl x1)], [.inl (x1 &&& (1 : Int32))], zfC M1)) (b := true) (by decide +kernel) rfl rfl ?_
  refine zif_ne Hy.1 (off := 4) (tgt := 15) (by decide +kernel) (by decide) (fun hb13 => ?_) (fun hb13 => ?_)
  · replace h := zite_f h hb13
    obtain ⟨hg2, h⟩ := zgd_inv h
    refine zblq Hy.1 Hy.2.1 [(.aload 0, 1), (.getfield 503, 3), (.iconst 0, 1), (.iconst 0, 1), (.iastore, 1), (.iconst 0, 1), (.istore 2, 1)] (S' := (24, [(0, .inr (.inr (some (5, 0)))), (1, .inl x1), (2, .inl (0 : Int32))], [], zfC (cs M1 603 0 (nx (0 : Int32)) (0 : Int32)))) (b := zin (0 : Int32) 10 && true) (by decide +kernel) rfl hg2 ?_
    refine zGo_keep [0, 1, 2] rfl ?_
    exact m5_findSteps_24_ok Hy hE zfu x1 (0 : Int32) (cs M1 603 0 (nx (0 : Int32)) (0 : Int32)) h
  · replace h := zite_t h hb13
    cases h
    exact zret_v Hy.1 Hy.2.2 hE (by decide +kernel)
theorem m5_findSteps_met {l : Launch} {G : zG} (hG : zGok G) (hcn : zgcn G = zcC) {x1 : Int32} {M : cM} {M' : cM} (h : m5_findSteps x1 M = some M') : zMet l G yX5_findSteps cX5_findSteps 4 (none) 2 44 [.inr (.inr (some (5, 0))), .inl x1] (zfC M) (none) (zfC M') :=
  zMet_of hG tbX5_ok rfl (by decide +kernel) (Nat.le_of_ble_eq_true rfl) (fun X _ Z hA hE => m5_findSteps_ok ⟨Z, hcn, hA⟩ hE x1 M h)
abbrev qJ7_fill_604 : ByteArray × Nat × String × zT := (cJ7_fill_53178, 4, RJ7, tbJ7)
def mJ7_fill_604_5 : Nat → Int32 → Int32 → Int32 → cM → Option cM
  | 0, _, _, _, _ => none
  | n + 1, x1, x2, x3, M => (if x3 ≤ x2 then some M else zgd (zin x2 10 && true) ((mJ7_fill_604_5 n) x1 (x2 + (1 : Int32)) x3 (cs M 604 0 (nx x2) x1)))
theorem mJ7_fill_604_5_ok {X : zX} {G : zG} (Hy : zHy X G qJ7_fill_604 zcC 0 0 (none)) {M' : cM} (hE : zEnd X G (none) (zfC M')) : ∀ (n : Nat) (x1 : Int32) (x2 : Int32) (x3 : Int32) (M : cM), mJ7_fill_604_5 n x1 x2 x3 M = some M' → zGo (X, qJ7_fill_604, G) 0 0 (5, [(0, .inr (.inr (some (604, 0)))), (1, .inl x1), (2, .inl x2), (3, .inl x3)], [], zfC M) := by
  intro n
  induction n with
  | zero => intro x1 x2 x3 M h; cases h
  | succ n ih =>
    intro x1 x2 x3 M h
    unfold mJ7_fill_604_5 at h
    refine zblq Hy.1 Hy.2.1 [(.iload 2, 1), (.iload 3, 1)] (S' := (7, [(0, .inr (.inr (some (604, 0)))), (1, .inl x1), (2, .inl x2), (3, .inl x3)], [.inl x3, .inl x2], zfC M)) (b := true) (by decide +kernel) rfl rfl ?_
    refine zic_ge Hy.1 (off := 13) (tgt := 20) (by decide +kernel) (by decide) (fun hb2 => ?_) (fun hb2 => ?_)
    · replace h := zite_t h hb2
      cases h
      exact zret_v Hy.1 Hy.2.2 hE (by decide +kernel)
    · replace h := zite_f h hb2
      obtain ⟨hg1, h⟩ := zgd_inv h
      refine zblq Hy.1 Hy.2.1 [(.aload 0, 1), (.iload 2, 1), (.iload 1, 1), (.iastore, 1), (.iinc 2 1, 3), (.ldc 5, 3)] (S' := (5, [(0, .inr (.inr (some (604, 0)))), (1, .inl x1), (2, .inl (x2 + (1 : Int32))), (3, .inl x3)], [], zfC (cs M 604 0 (nx x2) x1))) (b := zin x2 10 && true) (by decide +kernel) rfl hg1 ?_
      refine zGo_keep [0, 1, 2, 3] rfl ?_
      exact ih x1 (x2 + (1 : Int32)) x3 (cs M 604 0 (nx x2) x1) h
def mJ7_fill_604 (x1 : Int32) (M : cM) : Option cM := mJ7_fill_604_5 zfu x1 (0 : Int32) (10 : Int32) M
theorem mJ7_fill_604_ok {X : zX} {G : zG} (Hy : zHy X G qJ7_fill_604 zcC 0 0 (none)) {M' : cM} (hE : zEnd X G (none) (zfC M')) (x1 : Int32) (M : cM) (h : mJ7_fill_604 x1 M = some M') : zGo (X, qJ7_fill_604, G) 0 0 (0, [(0, .inr (.inr (some (604, 0)))), (1, .inl x1)], [], zfC M) := by
  unfold mJ7_fill_604 at h
  refine zblq Hy.1 Hy.2.1 [(.iconst 0, 1), (.istore 2, 1), (.aload 0, 1), (.arraylength, 1), (.istore 3, 1)] (S' := (5, [(0, .inr (.inr (some (604, 0)))), (1, .inl x1), (2, .inl (0 : Int32)), (3, .inl (10 : Int32))], [], zfC M)) (b := true) (by decide +kernel) rfl rfl ?_
  refine zGo_keep [0, 1, 2, 3] rfl ?_
  exact mJ7_fill_604_5_ok Hy hE zfu x1 (0 : Int32) (10 : Int32) M h
theorem mJ7_fill_604_met {l : Launch} {G : zG} (hG : zGok G) (hcn : zgcn G = zcC) {x1 : Int32} {M : cM} {M' : cM} (h : mJ7_fill_604 x1 M = some M') : zMet l G yJ7_fill_53178 cJ7_fill_53178 4 (none) 0 0 [.inr (.inr (some (604, 0))), .inl x1] (zfC M) (none) (zfC M') :=
  zMet_ofF hG tbJ7_ok rfl (by decide +kernel) (Nat.le_of_ble_eq_true rfl) (fun X _ Z hA hE => mJ7_fill_604_ok ⟨Z, hcn, hA⟩ hE x1 M h)
abbrev qJ7_fill_605 : ByteArray × Nat × String × zT := (cJ7_fill_53178, 4, RJ7, tbJ7)
def mJ7_fill_605_5 : Nat → Int32 → Int32 → Int32 → cM → Option cM
  | 0, _, _, _, _ => none
  | n + 1, x1, x2, x3, M => (if x3 ≤ x2 then some M else zgd (zin x2 10 && true) ((mJ7_fill_605_5 n) x1 (x2 + (1 : Int32)) x3 (cs M 605 0 (nx x2) x1)))
theorem mJ7_fill_605_5_ok {X : zX} {G : zG} (Hy : zHy X G qJ7_fill_605 zcC 0 0 (none)) {M' : cM} (hE : zEnd X G (none) (zfC M')) : ∀ (n : Nat) (x1 : Int32) (x2 : Int32) (x3 : Int32) (M : cM), mJ7_fill_605_5 n x1 x2 x3 M = some M' → zGo (X, qJ7_fill_605, G) 0 0 (5, [(0, .inr (.inr (some (605, 0)))), (1, .inl x1), (2, .inl x2), (3, .inl x3)], [], zfC M) := by
  intro n
  induction n with
  | zero => intro x1 x2 x3 M h; cases h
  | succ n ih =>
    intro x1 x2 x3 M h
    unfold mJ7_fill_605_5 at h
    refine zblq Hy.1 Hy.2.1 [(.iload 2, 1), (.iload 3, 1)] (S' := (7, [(0, .inr (.inr (some (605, 0)))), (1, .inl x1), (2, .inl x2), (3, .inl x3)], [.inl x3, .inl x2], zfC M)) (b := true) (by decide +kernel) rfl rfl ?_
    refine zic_ge Hy.1 (off := 13) (tgt := 20) (by decide +kernel) (by decide) (fun hb2 => ?_) (fun hb2 => ?_)
    · replace h := zite_t h hb2
      cases h
      exact zret_v Hy.1 Hy.2.2 hE (by decide +kernel)
    · replace h := zite_f h hb2
      obtain ⟨hg1, h⟩ := zgd_inv h
      refine zblq Hy.1 Hy.2.1 [(.aload 0, 1), (.iload 2, 1), (.iload 1, 1), (.iastore, 1), (.iinc 2 1, 3), (.ldc 5, 3)] (S' := (5, [(0, .inr (.inr (some (605, 0)))), (1, .inl x1), (2, .inl (x2 + (1 : Int32))), (3, .inl x3)], [], zfC (cs M 605 0 (nx x2) x1))) (b := zin x2 10 && true) (by decide +kernel) rfl hg1 ?_
      refine zGo_keep [0, 1, 2, 3] rfl ?_
      exact ih x1 (x2 + (1 : Int32)) x3 (cs M 605 0 (nx x2) x1) h
def mJ7_fill_605 (x1 : Int32) (M : cM) : Option cM := mJ7_fill_605_5 zfu x1 (0 : Int32) (10 : Int32) M
theorem mJ7_fill_605_ok {X : zX} {G : zG} (Hy : zHy X G qJ7_fill_605 zcC 0 0 (none)) {M' : cM} (hE : zEnd X G (none) (zfC M')) (x1 : Int32) (M : cM) (h : mJ7_fill_605 x1 M = some M') : zGo (X, qJ7_fill_605, G) 0 0 (0, [(0, .inr (.inr (some (605, 0)))), (1, .inl x1)], [], zfC M) := by
  unfold mJ7_fill_605 at h
  refine zblq Hy.1 Hy.2.1 [(.iconst 0, 1), (.istore 2, 1), (.aload 0, 1), (.arraylength, 1), (.istore 3, 1)] (S' := (5, [(0, .inr (.inr (some (605, 0)))), (1, .inl x1), (2, .inl (0 : Int32)), (3, .inl (10 : Int32))], [], zfC M)) (b := true) (by decide +kernel) rfl rfl ?_
  refine zGo_keep [0, 1, 2, 3] rfl ?_
  exact mJ7_fill_605_5_ok Hy hE zfu x1 (0 : Int32) (10 : Int32) M h
theorem mJ7_fill_605_met {l : Launch} {G : zG} (hG : zGok G) (hcn : zgcn G = zcC) {x1 : Int32} {M : cM} {M' : cM} (h : mJ7_fill_605 x1 M = some M') : zMet l G yJ7_fill_53178 cJ7_fill_53178 4 (none) 0 0 [.inr (.inr (some (605, 0))), .inl x1] (zfC M) (none) (zfC M') :=
  zMet_ofF hG tbJ7_ok rfl (by decide +kernel) (Nat.le_of_ble_eq_true rfl) (fun X _ Z hA hE => mJ7_fill_605_ok ⟨Z, hcn, hA⟩ hE x1 M h)
abbrev qJ6_numberOfTrailingZeros : ByteArray × Nat × String × zT := (cJ6_numberOfTrailingZeros_0f7a4, 2, RJ6, tbJ6)
def mJ6_numberOfTrailingZeros_74 (x0 : Int32) (x1 : Int32) (M : cM) : Option (Int32 × cM) := some (x1 + (zushr x0 (1 : Int32)), M)
theorem mJ6_numberOfTrailingZeros_74_ok {X : zX} {G : zG} (Hy : zHy X G qJ6_numberOfTrailingZeros zcC 0 0 (some .int)) {r : Int32} {M' : cM} (hE : zEnd X G (some (.inl r)) (zfC M')) (x0 : Int32) (x1 : Int32) (M : cM) (h : mJ6_numberOfTrailingZeros_74 x0 x1 M = some (r, M')) : zGo (X, qJ6_numberOfTrailingZeros, G) 0 0 (74, [(0, .inl x0), (1, .inl x1)], [], zfC M) := by
  unfold mJ6_numberOfTrailingZeros_74 at h
  refine zblq Hy.1 Hy.2.1 [(.iload 1, 1), (.iload 0, 1), (.iconst 1, 1), (.iushr, 1), (.iadd, 1)] (S' := (79, [(0, .inl x0), (1, .inl x1)], [.inl (x1 + (zushr x0 (1 : Int32)))], zfC M)) (b := true) (by decide +kernel) rfl rfl ?_
  cases h
  exact zret_i Hy.1 Hy.2.2 hE (by decide +kernel)
def mJ6_numberOfTrailingZeros_62 (x0 : Int32) (x1 : Int32) (M : cM) : Option (Int32 × cM) := (if x0 ≤ (4 : Int32) then mJ6_numberOfTrailingZeros_74 x0 x1 M else mJ6_numberOfTrailingZeros_74 (zushr x0 (2 : Int32)) (x1 + (2 : Int32)) M)
theorem mJ6_numberOfTrailingZeros_62_ok {X : zX} {G : zG} (Hy : zHy X G qJ6_numberOfTrailingZeros zcC 0 0 (some .int)) {r : Int32} {M' : cM} (hE : zEnd X G (some (.inl r)) (zfC M')) (x0 : Int32) (x1 : Int32) (M : cM) (h : mJ6_numberOfTrailingZeros_62 x0 x1 M = some (r, M')) : zGo (X, qJ6_numberOfTrailingZeros, G) 0 0 (62, [(0, .inl x0), (1, .inl x1)], [], zfC M) := by
  unfold mJ6_numberOfTrailingZeros_62 at h
  refine zblq Hy.1 Hy.2.1 [(.iload 0, 1), (.iconst 4, 1)] (S' := (64, [(0, .inl x0), (1, .inl x1)], [.inl (4 : Int32), .inl x0], zfC M)) (b := true) (by decide +kernel) rfl rfl ?_
  refine zic_le Hy.1 (off := 10) (tgt := 74) (by decide +kernel) (by decide) (fun hb1 => ?_) (fun hb1 => ?_)
  · replace h := zite_t h hb1
    refine zGo_keep [0, 1] rfl ?_
    exact mJ6_numberOfTrailingZeros_74_ok Hy hE x0 x1 M h
  · replace h := zite_f h hb1
    refine zblq Hy.1 Hy.2.1 [(.iinc 1 2, 3), (.iload 0, 1), (.iconst 2, 1), (.iushr, 1), (.istore 0, 1)] (S' := (74, [(0, .inl (zushr x0 (2 : Int32))), (1, .inl (x1 + (2 : Int32)))], [], zfC M)) (b := true) (by decide +kernel) rfl rfl ?_
    refine zGo_keep [0, 1] rfl ?_
    exact mJ6_numberOfTrailingZeros_74_ok Hy hE (zushr x0 (2 : Int32)) (x1 + (2 : Int32)) M h
def mJ6_numberOfTrailingZeros_49 (x0 : Int32) (x1 : Int32) (M : cM) : Option (Int32 × cM) := (if x0 ≤ (16 : Int32) then mJ6_numberOfTrailingZeros_62 x0 x1 M else mJ6_numberOfTrailingZeros_62 (zushr x0 (4 : Int32)) (x1 + (4 : Int32)) M)
theorem mJ6_numberOfTrailingZeros_49_ok {X : zX} {G : zG} (Hy : zHy X G qJ6_numberOfTrailingZeros zcC 0 0 (some .int)) {r : Int32} {M' : cM} (hE : zEnd X G (some (.inl r)) (zfC M')) (x0 : Int32) (x1 : Int32) (M : cM) (h : mJ6_numberOfTrailingZeros_49 x0 x1 M = some (r, M')) : zGo (X, qJ6_numberOfTrailingZeros, G) 0 0 (49, [(0, .inl x0), (1, .inl x1)], [], zfC M) := by
  unfold mJ6_numberOfTrailingZeros_49 at h
  refine zblq Hy.1 Hy.2.1 [(.iload 0, 1), (.iconst 16, 2)] (S' := (52, [(0, .inl x0), (1, .inl x1)], [.inl (16 : Int32), .inl x0], zfC M)) (b := true) (by decide +kernel) rfl rfl ?_
  refine zic_le Hy.1 (off := 10) (tgt := 62) (by decide +kernel) (by decide) (fun hb2 => ?_) (fun hb2 => ?_)
  · replace h := zite_t h hb2
    refine zGo_keep [0, 1] rfl ?_
    exact mJ6_numberOfTrailingZeros_62_ok Hy hE x0 x1 M h
  · replace h := zite_f h hb2
    refine zblq Hy.1 Hy.2.1 [(.iinc 1 4, 3), (.iload 0, 1), (.iconst 4, 1), (.iushr, 1), (.istore 0, 1)] (S' := (62, [(0, .inl (zushr x0 (4 : Int32))), (1, .inl (x1 + (4 : Int32)))], [], zfC M)) (b := true) (by decide +kernel) rfl rfl ?_
    refine zGo_keep [0, 1] rfl ?_
    exact mJ6_numberOfTrailingZeros_62_ok Hy hE (zushr x0 (4 : Int32)) (x1 + (4 : Int32)) M h
def mJ6_numberOfTrailingZeros_34 (x0 : Int32) (x1 : Int32) (M : cM) : Option (Int32 × cM) := (if x0 ≤ (256 : Int32) then mJ6_numberOfTrailingZeros_49 x0 x1 M else mJ6_numberOfTrailingZeros_49 (zushr x0 (8 : Int32)) (x1 + (8 : Int32)) M)
theorem mJ6_numberOfTrailingZeros_34_ok {X : zX} {G : zG} (Hy : zHy X G qJ6_numberOfTrailingZeros zcC 0 0 (some .int)) {r : Int32} {M' : cM} (hE : zEnd X G (some (.inl r)) (zfC M')) (x0 : Int32) (x1 : Int32) (M : cM) (h : mJ6_numberOfTrailingZeros_34 x0 x1 M = some (r, M')) : zGo (X, qJ6_numberOfTrailingZeros, G) 0 0 (34, [(0, .inl x0), (1, .inl x1)], [], zfC M) := by
  unfold mJ6_numberOfTrailingZeros_34 at h
  refine zblq Hy.1 Hy.2.1 [(.iload 0, 1), (.iconst 256, 3)] (S' := (38, [(0, .inl x0), (1, .inl x1)], [.inl (256 : Int32), .inl x0], zfC M)) (b := true) (by decide +kernel) rfl rfl ?_
  refine zic_le Hy.1 (off := 11) (tgt := 49) (by decide +kernel) (by decide) (fun hb3 => ?_) (fun hb3 => ?_)
  · replace h := zite_t h hb3
    refine zGo_keep [0, 1] rfl ?_
    exact mJ6_numberOfTrailingZeros_49_ok Hy hE x0 x1 M h
  · replace h := zite_f h hb3
    refine zblq Hy.1 Hy.2.1 [(.iinc 1 8, 3), (.iload 0, 1), (.iconst 8, 2), (.iushr, 1), (.istore 0, 1)] (S' := (49, [(0, .inl (zushr x0 (8 : Int32))), (1, .inl (x1 + (8 : Int32)))], [], zfC M)) (b := true) (by decide +kernel) rfl rfl ?_
    refine zGo_keep [0, 1] rfl ?_
    exact mJ6_numberOfTrailingZeros_49_ok Hy hE (zushr x0 (8 : Int32)) (x1 + (8 : Int32)) M h
def mJ6_numberOfTrailingZeros (x0 : Int32) (M : cM) : Option (Int32 × cM) := (if 0 < ((x0 ^^^ (-1 : Int32)) &&& (x0 - (1 : Int32))) then (if ((x0 ^^^ (-1 : Int32)) &&& (x0 - (1 : Int32))) ≤ (65536 : Int32) then mJ6_numberOfTrailingZeros_34 ((x0 ^^^ (-1 : Int32)) &&& (x0 - (1 : Int32))) (1 : Int32) M else mJ6_numberOfTrailingZeros_34 (zushr ((x0 ^^^ (-1 : Int32)) &&& (x0 - (1 : Int32))) (16 : Int32)) ((1 : Int32) + (16 : Int32)) M) else some (((x0 ^^^ (-1 : Int32)) &&& (x0 - (1 : Int32))) &&& (32 : Int32), M))
theorem mJ6_numberOfTrailingZeros_ok {X : zX} {G : zG} (Hy : zHy X G qJ6_numberOfTrailingZeros zcC 0 0 (some .int)) {r : Int32} {M' : cM} (hE : zEnd X G (some (.inl r)) (zfC M')) (x0 : Int32) (M : cM) (h : mJ6_numberOfTrailingZeros x0 M = some (r, M')) : zGo (X, qJ6_numberOfTrailingZeros, G) 0 0 (0, [(0, .inl x0)], [], zfC M) := by
  unfold mJ6_numberOfTrailingZeros at h
  refine zblq Hy.1 Hy.2.1 [(.iload 0, 1), (.iconst (-1), 1), (.ixor, 1), (.iload 0, 1), (.iconst 1, 1), (.isub, 1), (.iand, 1), (.istore 0, 1), (.iload 0, 1)] (S' := (9, [(0, .inl ((x0 ^^^ (-1 : Int32)) &&& (x0 - (1 : Int32))))], [.inl ((x0 ^^^ (-1 : Int32)) &&& (x0 - (1 : Int32)))], zfC M)) (b := true) (by decide +kernel) rfl rfl ?_
  refine zif_gt Hy.1 (off := 8) (tgt := 17) (by decide +kernel) (by decide) (fun hb5 => ?_) (fun hb5 => ?_)
  · replace h := zite_t h hb5
    refine zblq Hy.1 Hy.2.1 [(.iconst 1, 1), (.istore 1, 1), (.iload 0, 1), (.iconst 65536, 3)] (S' := (23, [(0, .inl ((x0 ^^^ (-1 : Int32)) &&& (x0 - (1 : Int32)))), (1, .inl (1 : Int32))], [.inl (65536 : Int32), .inl ((x0 ^^^ (-1 : Int32)) &&& (x0 - (1 : Int32)))], zfC M)) (b := true) (by decide +kernel) rfl rfl ?_
    refine zic_le Hy.1 (off := 11) (tgt := 34) (by decide +kernel) (by decide) (fun hb4 => ?_) (fun hb4 => ?_)
    · replace h := zite_t h hb4
      refine zGo_keep [0, 1] rfl ?_
      exact mJ6_numberOfTrailingZeros_34_ok Hy hE ((x0 ^^^ (-1 : Int32)) &&& (x0 - (1 : Int32))) (1 : Int32) M h
    · replace h := zite_f h hb4
      refine zblq Hy.1 Hy.2.1 [(.iinc 1 16, 3), (.iload 0, 1), (.iconst 16, 2), (.iushr, 1), (.istore 0, 1)] (S' := (34, [(0, .inl (zushr ((x0 ^^^ (-1 : Int32)) &&& (x0 - (1 : Int32))) (16 : Int32))), (1, .inl ((1 : Int32) + (16 : Int32)))], [], zfC M)) (b := true) (by decide +kernel) rfl rfl ?_
      refine zGo_keep [0, 1] rfl ?_
      exact mJ6_numberOfTrailingZeros_34_ok Hy hE (zushr ((x0 ^^^ (-1 : Int32)) &&& (x0 - (1 : Int32))) (16 : Int32)) ((1 : Int32) + (16 : Int32)) M h
  · replace h := zite_f h hb5
    refine zblq Hy.1 Hy.2.1 [(.iload 0, 1), (.iconst 32, 2), (.iand, 1)] (S' := (16, [(0, .inl ((x0 ^^^ (-1 : Int32)) &&& (x0 - (1 : Int32))))], [.inl (((x0 ^^^ (-1 : Int32)) &&& (x0 - (1 : Int32))) &&& (32 : Int32))], zfC M)) (b := true) (by decide +kernel) rfl rfl ?_
    cases h
    exact zret_i Hy.1 Hy.2.2 hE (by decide +kernel)
theorem mJ6_numberOfTrailingZeros_met {l : Launch} {G : zG} (hG : zGok G) (hcn : zgcn G = zcC) {x0 : Int32} {M : cM} {r : Int32} {M' : cM} (h : mJ6_numberOfTrailingZeros x0 M = some (r, M')) : zMet l G yJ6_numberOfTrailingZeros_0f7a4 cJ6_numberOfTrailingZeros_0f7a4 2 (some .int) 0 0 [.inl x0] (zfC M) (some (.inl r)) (zfC M') :=
  zMet_ofF hG tbJ6_ok rfl (by decide +kernel) (Nat.le_of_ble_eq_true rfl) (fun X _ Z hA hE => mJ6_numberOfTrailingZeros_ok ⟨Z, hcn, hA⟩ hE x0 M h)
abbrev q5_findNearer : ByteArray × Nat × String × zT := (cX5_findNearer, 4, RX5, tbX5)
def m5_findNearer_113 (k20 : Int32 → Int32 → Int32 → cM → Option (Int32 × cM)) (x1 : Int32) (x2 : Int32) (x3 : Int32) (M : cM) : Option (Int32 × cM) := k20 x1 x2 (x3 + (1 : Int32)) M
theorem m5_findNearer_113_ok {X : zX} {G : zG} (Hy : zHy X G q5_findNearer zcC 2 44 (some .int)) {r : Int32} {M' : cM} (hE : zEnd X G (some (.inl r)) (zfC M')) {k20 : Int32 → Int32 → Int32 → cM → Option (Int32 × cM)} (hk20 : ∀ (x1 : Int32) (x2 : Int32) (x3 : Int32) (M : cM), k20 x1 x2 x3 M = some (r, M') → zGo (X, q5_findNearer, G) 0 0 (20, [(0, .inr (.inr (some (5, 0)))), (1, .inl x1), (2, .inl x2), (3, .inl x3)], [], zfC M)) (x1 : Int32) (x2 : Int32) (x3 : Int32) (M : cM) (h : m5_findNearer_113 k20 x1 x2 x3 M = some (r, M')) : zGo (X, q5_findNearer, G) 0 0 (113, [(0, .inr (.inr (some (5, 0)))), (1, .inl x1), (2, .inl x2), (3, .inl x3)], [], zfC M) := by
  unfold m5_findNearer_113 at h
  refine zblq Hy.1 Hy.2.1 [(.iinc 3 1, 3), (.ldc 20, 3)] (S' := (20, [(0, .inr (.inr (some (5, 0)))), (1, .inl x1), (2, .inl x2), (3, .inl (x3 + (1 : Int32)))], [], zfC M)) (b := true) (by decide +kernel) rfl rfl ?_
  refine zGo_keep [0, 1, 2, 3] rfl ?_
  exact hk20 x1 x2 (x3 + (1 : Int32)) M h
def m5_findNearer_20 : Nat → Int32 → Int32 → Int32 → cM → Option (Int32 × cM)
  | 0, _, _, _, _ => none
  | n + 1, x1, x2, x3, M => (if (cg M 3 0 4) ≤ x3 then some (x2, M) else (if (10 : Int32) ≤ x3 then some (x2, M) else zgd (zin x3 10 && true) ((if (1 : Int32) ≤ (cg M 603 0 (nx x3)) then zbd (m3_friends x3 M) (fun r4 M4 => zgd (zin x3 10 && true) (zbd (m5_boxesAt ((cg M4 603 0 (nx x3)) - (1 : Int32)) M4) (fun r6 M6 => zgd (zin x3 10 && (zin x3 10 && true)) (zbd (mJ6_numberOfTrailingZeros (cg (cs M6 604 0 (nx x3) ((r4 &&& x1) &&& r6)) 604 0 (nx x3)) (cs M6 604 0 (nx x3) ((r4 &&& x1) &&& r6))) (fun r8 M8 => zgd (zin x3 10 && true) ((if (20000 : Int32) < x2 then m5_findNearer_113 (m5_findNearer_20 n) x1 x2 x3 (cs M8 605 0 (nx x3) r8) else zgd (zin x3 10 && true) (zbd (mJ6_bitCount (cg (cs M8 605 0 (nx x3) r8) 604 0 (nx x3)) (cs M8 605 0 (nx x3) r8)) (fun r11 M11 => m5_findNearer_113 (m5_findNearer_20 n) x1 (x2 * r11) x3 M11))))))))) else m5_findNearer_113 (m5_findNearer_20 n) x1 x2 x3 M))))
theorem m5_findNearer_20_ok {X : zX} {G : zG} (Hy : zHy X G q5_findNearer zcC 2 44 (some .int)) {r : Int32} {M' : cM} (hE : zEnd X G (some (.inl r)) (zfC M')) : ∀ (n : Nat) (x1 : Int32) (x2 : Int32) (x3 : Int32) (M : cM), m5_findNearer_20 n x1 x2 x3 M = some (r, M') → zGo (X, q5_findNearer, G) 0 0 (20, [(0, .inr (.inr (some (5, 0)))), (1, .inl x1), (2, .inl x2), (3, .inl x3)], [], zfC M) := by
  intro n
  induction n with
  | zero => intro x1 x2 x3 M h; cases h
  | succ n ih =>
    intro x1 x2 x3 M h
    unfold m5_findNearer_20 at h
    refine zblq Hy.1 Hy.2.1 [(.iload 3, 1), (.aload 0, 1), (.getfield 500, 3), (.multianewarray 3 4, 3)] (S' := (28, [(0, .inr (.inr (some (5, 0)))), (1, .inl x1), (2, .inl x2), (3, .inl x3)], [.inl (cg M 3 0 4), .inl x3], zfC M)) (b := true) (by decide +kernel) rfl rfl ?_
    refine zic_ge Hy.1 (off := 91) (tgt := 119) (by decide +kernel) (by decide) (fun hb15 => ?_) (fun hb15 => ?_)
    · replace h := zite_t h hb15
      refine zblq Hy.1 Hy.2.1 [(.iload 2, 1)] (S' := (120, [(0, .inr (.inr (some (5, 0)))), (1, .inl x1), (2, .inl x2), (3, .inl x3)], [.inl x2], zfC M)) (b := true) (by decide +kernel) rfl rfl ?_
      cases h
      exact zret_i Hy.1 Hy.2.2 hE (by decide +kernel)
    · replace h := zite_f h hb15
      refine zblq Hy.1 Hy.2.1 [(.iload 3, 1), (.iconst 10, 2)] (S' := (34, [(0, .inr (.inr (some (5, 0)))), (1, .inl x1), (2, .inl x2), (3, .inl x3)], [.inl (10 : Int32), .inl x3], zfC M)) (b := true) (by decide +kernel) rfl rfl ?_
      refine zic_ge Hy.1 (off := 85) (tgt := 119) (by decide +kernel) (by decide) (fun hb14 => ?_) (fun hb14 => ?_)
      · replace h := zite_t h hb14
        refine zblq Hy.1 Hy.2.1 [(.iload 2, 1)] (S' := (120, [(0, .inr (.inr (some (5, 0)))), (1, .inl x1), (2, .inl x2), (3, .inl x3)], [.inl x2], zfC M)) (b := true) (by decide +kernel) rfl rfl ?_
        cases h
        exact zret_i Hy.1 Hy.2.2 hE (by decide +kernel)
      · replace h := zite_f h hb14
        obtain ⟨hg3, h⟩ := zgd_inv h
        refine zblq Hy.1 Hy.2.1 [(.aload 0, 1), (.getfield 503, 3), (.iload 3, 1), (.iaload, 1), (.iconst 1, 1)] (S' := (44, [(0, .inr (.inr (some (5, 0)))), (1, .inl x1), (2, .inl x2), (3, .inl x3)], [.inl (1 : Int32), .inl (cg M 603 0 (nx x3))], zfC M)) (b := zin x3 10 && true) (by decide +kernel) rfl hg3 ?_
        refine zic_ge Hy.1 (off := 6) (tgt := 50) (by decide +kernel) (by decide) (fun hb13 => ?_) (fun hb13 => ?_)
        · replace h := zite_t h hb13
          refine zblq Hy.1 Hy.2.1 [(.aload 0, 1), (.getfield 504, 3), (.iload 3, 1), (.aload 0, 1), (.getfield 500, 3), (.iload 3, 1)] (S' := (60, [(0, .inr (.inr (some (5, 0)))), (1, .inl x1), (2, .inl x2), (3, .inl x3)], [.inl x3, .inr (.inr (some (3, 0))), .inl x3, .inr (.inr (some (604, 0)))], zfC M)) (b := true) (by decide +kernel) rfl rfl ?_
          obtain ⟨r4, M4, hc4, h⟩ := zbd_inv h
          refine zcallV Hy.1 (as := [.inl x3]) (st := [.inl x3, .inr (.inr (some (604, 0)))]) (m3_friends_met (zOK_G Hy.1) Hy.2.1 hc4) cw5_117 m3_friends_in m3_friends_se (by decide) (zhlv Hy.2.1 rfl) rfl (zroom Hy.2.2 ⟨by decide, by decide⟩) rfl (by decide +kernel) ⟨Nat.zero_le _, Nat.zero_le _⟩ ?_
          obtain ⟨hg5, h⟩ := zgd_inv h
          refine zblq Hy.1 Hy.2.1 [(.iload 1, 1), (.iand, 1), (.aload 0, 1), (.aload 0, 1), (.getfield 503, 3), (.iload 3, 1), (.iaload, 1), (.iconst 1, 1), (.isub, 1)] (S' := (74, [(0, .inr (.inr (some (5, 0)))), (1, .inl x1), (2, .inl x2), (3, .inl x3)], [.inl ((cg M4 603 0 (nx x3)) - (1 : Int32)), .inr (.inr (some (5, 0))), .inl (r4 &&& x1), .inl x3, .inr (.inr (some (604, 0)))], zfC M4)) (b := zin x3 10 && true) (by decide +kernel) rfl hg5 ?_
          obtain ⟨r6, M6, hc6, h⟩ := zbd_inv h
          refine zcallV Hy.1 (as := [.inl ((cg M4 603 0 (nx x3)) - (1 : Int32))]) (st := [.inl (r4 &&& x1), .inl x3, .inr (.inr (some (604, 0)))]) (m5_boxesAt_met (zOK_G Hy.1) Hy.2.1 hc6) cw5_120 m5_boxesAt_in m5_boxesAt_se (by decide) (zhlv Hy.2.1 rfl) rfl (zroom Hy.2.2 ⟨by decide, by decide⟩) rfl (by decide +kernel) ⟨Nat.zero_le _, Nat.zero_le _⟩ ?_
          obtain ⟨hg7, h⟩ := zgd_inv h
          refine zblq Hy.1 Hy.2.1 [(.iand, 1), (.iastore, 1), (.aload 0, 1), (.getfield 505, 3), (.iload 3, 1), (.aload 0, 1), (.getfield 504, 3), (.iload 3, 1), (.iaload, 1)] (S' := (90, [(0, .inr (.inr (some (5, 0)))), (1, .inl x1), (2, .inl x2), (3, .inl x3)], [.inl (cg (cs M6 604 0 (nx x3) ((r4 &&& x1) &&& r6)) 604 0 (nx x3)), .inl x3, .inr (.inr (some (605, 0)))], zfC (cs M6 604 0 (nx x3) ((r4 &&& x1) &&& r6)))) (b := zin x3 10 && (zin x3 10 && true)) (by decide +kernel) rfl hg7 ?_
          obtain ⟨r8, M8, hc8, h⟩ := zbd_inv h
          refine zcallS Hy.1 (as := [.inl (cg (cs M6 604 0 (nx x3) ((r4 &&& x1) &&& r6)) 604 0 (nx x3))]) (st := [.inl x3, .inr (.inr (some (605, 0)))]) (mJ6_numberOfTrailingZeros_met (zOK_G Hy.1) Hy.2.1 hc8) cw5_123 mJ6_numberOfTrailingZeros_in rfl (zroom Hy.2.2 ⟨by decide, by decide⟩) rfl (by decide +kernel) ⟨Nat.zero_le _, Nat.zero_le _⟩ ?_
          obtain ⟨hg9, h⟩ := zgd_inv h
          refine zblq Hy.1 Hy.2.1 [(.iastore, 1), (.iload 2, 1), (.iconst 20000, 3)] (S' := (98, [(0, .inr (.inr (some (5, 0)))), (1, .inl x1), (2, .inl x2), (3, .inl x3)], [.inl (20000 : Int32), .inl x2], zfC (cs M8 605 0 (nx x3) r8))) (b := zin x3 10 && true) (by decide +kernel) rfl hg9 ?_
          refine zic_gt Hy.1 (off := 15) (tgt := 113) (by decide +kernel) (by decide) (fun hb12 => ?_) (fun hb12 => ?_)
          · replace h := zite_t h hb12
            refine zGo_keep [0, 1, 2, 3] rfl ?_
            exact m5_findNearer_113_ok Hy hE ih x1 x2 x3 (cs M8 605 0 (nx x3) r8) h
          · replace h := zite_f h hb12
            obtain ⟨hg10, h⟩ := zgd_inv h
            refine zblq Hy.1 Hy.2.1 [(.iload 2, 1), (.aload 0, 1), (.getfield 504, 3), (.iload 3, 1), (.iaload, 1)] (S' := (108, [(0, .inr (.inr (some (5, 0)))), (1, .inl x1), (2, .inl x2), (3, .inl x3)], [.inl (cg (cs M8 605 0 (nx x3) r8) 604 0 (nx x3)), .inl x2], zfC (cs M8 605 0 (nx x3) r8))) (b := zin x3 10 && true) (by decide +kernel) rfl hg10 ?_
            obtain ⟨r11, M11, hc11, h⟩ := zbd_inv h
            refine zcallS Hy.1 (as := [.inl (cg (cs M8 605 0 (nx x3) r8) 604 0 (nx x3))]) (st := [.inl x2]) (mJ6_bitCount_met (zOK_G Hy.1) Hy.2.1 hc11) cw5_128 mJ6_bitCount_in rfl (zroom Hy.2.2 ⟨by decide, by decide⟩) rfl (by decide +kernel) ⟨Nat.zero_le _, Nat.zero_le _⟩ ?_
            refine zblq Hy.1 Hy.2.1 [(.imul, 1), (.istore 2, 1)] (S' := (113, [(0, .inr (.inr (some (5, 0)))), (1, .inl x1), (2, .inl (x2 * r11)), (3, .inl x3)], [], zfC M11)) (b := true) (by decide +kernel) rfl rfl ?_
            refine zGo_keep [0, 1, 2, 3] rfl ?_
            exact m5_findNearer_113_ok Hy hE ih x1 (x2 * r11) x3 M11 h
        · replace h := zite_f h hb13
          refine zblq Hy.1 Hy.2.1 [(.ldc 113, 3)] (S' := (113, [(0, .inr (.inr (some (5, 0)))), (1, .inl x1), (2, .inl x2), (3, .inl x3)], [], zfC M)) (b := true) (by decide +kernel) rfl rfl ?_
          refine zGo_keep [0, 1, 2, 3] rfl ?_
          exact m5_findNearer_113_ok Hy hE ih x1 x2 x3 M h
def m5_findNearer (x1 : Int32) (M : cM) : Option (Int32 × cM) := zbv (mJ7_fill_604 (0 : Int32) M) (fun M1 => zbv (mJ7_fill_605 (-1 : Int32) M1) (fun M2 => m5_findNearer_20 zfu x1 (1 : Int32) (1 : Int32) M2))
theorem m5_findNearer_ok {X : zX} {G : zG} (Hy : zHy X G q5_findNearer zcC 2 44 (some .int)) {r : Int32} {M' : cM} (hE : zEnd X G (some (.inl r)) (zfC M')) (x1 : Int32) (M : cM) (h : m5_findNearer x1 M = some (r, M')) : zGo (X, q5_findNearer, G) 0 0 (0, [(0, .inr (.inr (some (5, 0)))), (1, .inl x1)], [], zfC M) := by
  unfold m5_findNearer at h
  refine zblq Hy.1 Hy.2.1 [(.iconst 1, 1), (.istore 2, 1), (.aload 0, 1), (.getfield 504, 3), (.iconst 0, 1)] (S' := (7, [(0, .inr (.inr (some (5, 0)))), (1, .inl x1), (2, .inl (1 : Int32))], [.inl (0 : Int32), .inr (.inr (some (604, 0)))], zfC M)) (b := true) (by decide +kernel) rfl rfl ?_
  obtain ⟨M1, hc1, h⟩ := zbv_inv h
  refine zcallS Hy.1 (as := [.inr (.inr (some (604, 0))), .inl (0 : Int32)]) (st := []) (mJ7_fill_604_met (zOK_G Hy.1) Hy.2.1 hc1) cw5_78 mJ7_fill_in rfl (zroom Hy.2.2 ⟨by decide, by decide⟩) rfl (by decide +kernel) ⟨Nat.zero_le _, Nat.zero_le _⟩ ?_
  refine zblq Hy.1 Hy.2.1 [(.aload 0, 1), (.getfield 505, 3), (.iconst (-1), 1)] (S' := (15, [(0, .inr (.inr (some (5, 0)))), (1, .inl x1), (2, .inl (1 : Int32))], [.inl (-1 : Int32), .inr (.inr (some (605, 0)))], zfC M1)) (b := true) (by decide +kernel) rfl rfl ?_
  obtain ⟨M2, hc2, h⟩ := zbv_inv h
  refine zcallS Hy.1 (as := [.inr (.inr (some (605, 0))), .inl (-1 : Int32)]) (st := []) (mJ7_fill_605_met (zOK_G Hy.1) Hy.2.1 hc2) cw5_78 mJ7_fill_in rfl (zroom Hy.2.2 ⟨by decide, by decide⟩) rfl (by decide +kernel) ⟨Nat.zero_le _, Nat.zero_le _⟩ ?_
  refine zblq Hy.1 Hy.2.1 [(.iconst 1, 1), (.istore 3, 1)] (S' := (20, [(0, .inr (.inr (some (5, 0)))), (1, .inl x1), (2, .inl (1 : Int32)), (3, .inl (1 : Int32))], [], zfC M2)) (b := true) (by decide +kernel) rfl rfl ?_
  refine zGo_keep [0, 1, 2, 3] rfl ?_
  exact m5_findNearer_20_ok Hy hE zfu x1 (1 : Int32) (1 : Int32) M2 h
theorem m5_findNearer_met {l : Launch} {G : zG} (hG : zGok G) (hcn : zgcn G = zcC) {x1 : Int32} {M : cM} {r : Int32} {M' : cM} (h : m5_findNearer x1 M = some (r, M')) : zMet l G yX5_findNearer cX5_findNearer 4 (some .int) 2 44 [.inr (.inr (some (5, 0))), .inl x1] (zfC M) (some (.inl r)) (zfC M') :=
  zMet_of hG tbX5_ok rfl (by decide +kernel) (Nat.le_of_ble_eq_true rfl) (fun X _ Z hA hE => m5_findNearer_ok ⟨Z, hcn, hA⟩ hE x1 M h)
abbrev qJ7_fill_607 : ByteArray × Nat × String × zT := (cJ7_fill_53178, 4, RJ7, tbJ7)
def mJ7_fill_607_5 : Nat → Int32 → Int32 → Int32 → cM → Option cM
  | 0, _, _, _, _ => none
  | n + 1, x1, x2, x3, M => (if x3 ≤ x2 then some M else zgd (zin x2 10 && true) ((mJ7_fill_607_5 n) x1 (x2 + (1 : Int32)) x3 (cs M 607 0 (nx x2) x1)))
theorem mJ7_fill_607_5_ok {X : zX} {G : zG} (Hy : zHy X G qJ7_fill_607 zcC 0 0 (none)) {M' : cM} (hE : zEnd X G (none) (zfC M')) : ∀ (n : Nat) (x1 : Int32) (x2 : Int32) (x3 : Int32) (M : cM), mJ7_fill_607_5 n x1 x2 x3 M = some M' → zGo (X, qJ7_fill_607, G) 0 0 (5, [(0, .inr (.inr (some (607, 0)))), (1, .inl x1), (2, .inl x2), (3, .inl x3)], [], zfC M) := by
  intro n
  induction n with
  | zero => intro x1 x2 x3 M h; cases h
  | succ n ih =>
    intro x1 x2 x3 M h
    unfold mJ7_fill_607_5 at h
    refine zblq Hy.1 Hy.2.1 [(.iload 2, 1), (.iload 3, 1)] (S' := (7, [(0, .inr (.inr (some (607, 0)))), (1, .inl x1), (2, .inl x2), (3, .inl x3)], [.inl x3, .inl x2], zfC M)) (b := true) (by decide +kernel) rfl rfl ?_
    refine zic_ge Hy.1 (off := 13) (tgt := 20) (by decide +kernel) (by decide) (fun hb2 => ?_) (fun hb2 => ?_)
    · replace h := zite_t h hb2
      cases h
      exact zret_v Hy.1 Hy.2.2 hE (by decide +kernel)
    · replace h := zite_f h hb2
      obtain ⟨hg1, h⟩ := zgd_inv h
      refine zblq Hy.1 Hy.2.1 [(.aload 0, 1), (.iload 2, 1), (.iload 1, 1), (.iastore, 1), (.iinc 2 1, 3), (.ldc 5, 3)] (S' := (5, [(0, .inr (.inr (some (607, 0)))), (1, .inl x1), (2, .inl (x2 + (1 : Int32))), (3, .inl x3)], [], zfC (cs M 607 0 (nx x2) x1))) (b := zin x2 10 && true) (by decide +kernel) rfl hg1 ?_
      refine zGo_keep [0, 1, 2, 3] rfl ?_
      exact ih x1 (x2 + (1 : Int32)) x3 (cs M 607 0 (nx x2) x1) h
def mJ7_fill_607 (x1 : Int32) (M : cM) : Option cM := mJ7_fill_607_5 zfu x1 (0 : Int32) (10 : Int32) M
theorem mJ7_fill_607_ok {X : zX} {G : zG} (Hy : zHy X G qJ7_fill_607 zcC 0 0 (none)) {M' : cM} (hE : zEnd X G (none) (zfC M')) (x1 : Int32) (M : cM) (h : mJ7_fill_607 x1 M = some M') : zGo (X, qJ7_fill_607, G) 0 0 (0, [(0, .inr (.inr (some (607, 0)))), (1, .inl x1)], [], zfC M) := by
  unfold mJ7_fill_607 at h
  refine zblq Hy.1 Hy.2.1 [(.iconst 0, 1), (.istore 2, 1), (.aload 0, 1), (.arraylength, 1), (.istore 3, 1)] (S' := (5, [(0, .inr (.inr (some (607, 0)))), (1, .inl x1), (2, .inl (0 : Int32)), (3, .inl (10 : Int32))], [], zfC M)) (b := true) (by decide +kernel) rfl rfl ?_
  refine zGo_keep [0, 1, 2, 3] rfl ?_
  exact mJ7_fill_607_5_ok Hy hE zfu x1 (0 : Int32) (10 : Int32) M h
theorem mJ7_fill_607_met {l : Launch} {G : zG} (hG : zGok G) (hcn : zgcn G = zcC) {x1 : Int32} {M : cM} {M' : cM} (h : mJ7_fill_607 x1 M = some M') : zMet l G yJ7_fill_53178 cJ7_fill_53178 4 (none) 0 0 [.inr (.inr (some (607, 0))), .inl x1] (zfC M) (none) (zfC M') :=
  zMet_ofF hG tbJ7_ok rfl (by decide +kernel) (Nat.le_of_ble_eq_true rfl) (fun X _ Z hA hE => mJ7_fill_607_ok ⟨Z, hcn, hA⟩ hE x1 M h)
abbrev q5_leastLife : ByteArray × Nat × String × zT := (cX5_leastLife, 4, RX5, tbX5)
def m5_leastLife_108 (k66 : Int32 → Int32 → Int32 → cM → Option (Int32 × cM)) (x1 : Int32) (x2 : Int32) (x3 : Int32) (M : cM) : Option (Int32 × cM) := k66 x1 x2 (x3 + (1 : Int32)) M
theorem m5_leastLife_108_ok {X : zX} {G : zG} (Hy : zHy X G q5_leastLife zcC 1 23 (some .int)) {r : Int32} {M' : cM} (hE : zEnd X G (some (.inl r)) (zfC M')) {k66 : Int32 → Int32 → Int32 → cM → Option (Int32 × cM)} (hk66 : ∀ (x1 : Int32) (x2 : Int32) (x3 : Int32) (M : cM), k66 x1 x2 x3 M = some (r, M') → zGo (X, q5_leastLife, G) 0 0 (66, [(0, .inr (.inr (some (5, 0)))), (1, .inl x1), (2, .inl x2), (3, .inl x3)], [], zfC M)) (x1 : Int32) (x2 : Int32) (x3 : Int32) (M : cM) (h : m5_leastLife_108 k66 x1 x2 x3 M = some (r, M')) : zGo (X, q5_leastLife, G) 0 0 (108, [(0, .inr (.inr (some (5, 0)))), (1, .inl x1), (2, .inl x2), (3, .inl x3)], [], zfC M) := by
  unfold m5_leastLife_108 at h
  refine zblq Hy.1 Hy.2.1 [(.iinc 3 1, 3), (.ldc 66, 3)] (S' := (66, [(0, .inr (.inr (some (5, 0)))), (1, .inl x1), (2, .inl x2), (3, .inl (x3 + (1 : Int32)))], [], zfC M)) (b := true) (by decide +kernel) rfl rfl ?_
  refine zGo_keep [0, 1, 2, 3] rfl ?_
  exact hk66 x1 x2 (x3 + (1 : Int32)) M h
def m5_leastLife_66 : Nat → Int32 → Int32 → Int32 → cM → Option (Int32 × cM)
  | 0, _, _, _, _ => none
  | n + 1, x1, x2, x3, M => (if (cg M 3 0 4) ≤ x3 then some (x2, M) else (if (10 : Int32) ≤ x3 then some (x2, M) else (if ((zshr x1 x3) &&& (1 : Int32)) = (1 : Int32) then zgd (zin x3 10 && true) (zbd (m5_lifeWith x3 (cg M 607 0 (nx x3)) M) (fun r3 M3 => zbd (mJ9_min x2 r3 M3) (fun r4 M4 => m5_leastLife_108 (m5_leastLife_66 n) x1 r4 x3 M4))) else m5_leastLife_108 (m5_leastLife_66 n) x1 x2 x3 M)))
theorem m5_leastLife_66_ok {X : zX} {G : zG} (Hy : zHy X G q5_leastLife zcC 1 23 (some .int)) {r : Int32} {M' : cM} (hE : zEnd X G (some (.inl r)) (zfC M')) : ∀ (n : Nat) (x1 : Int32) (x2 : Int32) (x3 : Int32) (M : cM), m5_leastLife_66 n x1 x2 x3 M = some (r, M') → zGo (X, q5_leastLife, G) 0 0 (66, [(0, .inr (.inr (some (5, 0)))), (1, .inl x1), (2, .inl x2), (3, .inl x3)], [], zfC M) := by
  intro n
  induction n with
  | zero => intro x1 x2 x3 M h; cases h
  | succ n ih =>
    intro x1 x2 x3 M h
    unfold m5_leastLife_66 at h
    refine zblq Hy.1 Hy.2.1 [(.iload 3, 1), (.aload 0, 1), (.getfield 500, 3), (.multianewarray 3 4, 3)] (S' := (74, [(0, .inr (.inr (some (5, 0)))), (1, .inl x1), (2, .inl x2), (3, .inl x3)], [.inl (cg M 3 0 4), .inl x3], zfC M)) (b := true) (by decide +kernel) rfl rfl ?_
    refine zic_ge Hy.1 (off := 40) (tgt := 114) (by decide +kernel) (by decide) (fun hb7 => ?_) (fun hb7 => ?_)
    · replace h := zite_t h hb7
      refine zblq Hy.1 Hy.2.1 [(.iload 2, 1)] (S' := (115, [(0, .inr (.inr (some (5, 0)))), (1, .inl x1), (2, .inl x2), (3, .inl x3)], [.inl x2], zfC M)) (b := true) (by decide +kernel) rfl rfl ?_
      cases h
      exact zret_i Hy.1 Hy.2.2 hE (by decide +kernel)
    · replace h := zite_f h hb7
      refine zblq Hy.1 Hy.2.1 [(.iload 3, 1), (.iconst 10, 2)] (S' := (80, [(0, .inr (.inr (some (5, 0)))), (1, .inl x1), (2, .inl x2), (3, .inl x3)], [.inl (10 : Int32), .inl x3], zfC M)) (b := true) (by decide +kernel) rfl rfl ?_
      refine zic_ge Hy.1 (off := 34) (tgt := 114) (by decide +kernel) (by decide) (fun hb6 => ?_) (fun hb6 => ?_)
      · replace h := zite_t h hb6
        refine zblq Hy.1 Hy.2.1 [(.iload 2, 1)] (S' := (115, [(0, .inr (.inr (some (5, 0)))), (1, .inl x1), (2, .inl x2), (3, .inl x3)], [.inl x2], zfC M)) (b := true) (by decide +kernel) rfl rfl ?_
        cases h
        exact zret_i Hy.1 Hy.2.2 hE (by decide +kernel)
      · replace h := zite_f h hb6
        refine zblq Hy.1 Hy.2.1 [(.iload 1, 1), (.iload 3, 1), (.ishr, 1), (.iconst 1, 1), (.iand, 1), (.iconst 1, 1)] (S' := (89, [(0, .inr (.inr (some (5, 0)))), (1, .inl x1), (2, .inl x2), (3, .inl x3)], [.inl (1 : Int32), .inl ((zshr x1 x3) &&& (1 : Int32))], zfC M)) (b := true) (by decide +kernel) rfl rfl ?_
        refine zic_ne Hy.1 (off := 19) (tgt := 108) (by decide +kernel) (by decide) (fun hb5 => ?_) (fun hb5 => ?_)
        · replace h := zite_f h hb5
          refine zGo_keep [0, 1, 2, 3] rfl ?_
          exact m5_leastLife_108_ok Hy hE ih x1 x2 x3 M h
        · replace h := zite_t h hb5
          obtain ⟨hg2, h⟩ := zgd_inv h
          refine zblq Hy.1 Hy.2.1 [(.iload 2, 1), (.aload 0, 1), (.iload 3, 1), (.aload 0, 1), (.getfield 507, 3), (.iload 3, 1), (.iaload, 1)] (S' := (101, [(0, .inr (.inr (some (5, 0)))), (1, .inl x1), (2, .inl x2), (3, .inl x3)], [.inl (cg M 607 0 (nx x3)), .inl x3, .inr (.inr (some (5, 0))), .inl x2], zfC M)) (b := zin x3 10 && true) (by decide +kernel) rfl hg2 ?_
          obtain ⟨r3, M3, hc3, h⟩ := zbd_inv h
          refine zcallV Hy.1 (as := [.inl x3, .inl (cg M 607 0 (nx x3))]) (st := [.inl x2]) (m5_lifeWith_met (zOK_G Hy.1) Hy.2.1 hc3) cw5_74 m5_lifeWith_in m5_lifeWith_se (by decide) (zhlv Hy.2.1 rfl) rfl (zroom Hy.2.2 ⟨by decide, by decide⟩) rfl (by decide +kernel) ⟨Nat.zero_le _, Nat.zero_le _⟩ ?_
          obtain ⟨r4, M4, hc4, h⟩ := zbd_inv h
          refine zcallS Hy.1 (as := [.inl x2, .inl r3]) (st := []) (mJ9_min_met (zOK_G Hy.1) Hy.2.1 hc4) cw5_131 mJ9_min_in rfl (zroom Hy.2.2 ⟨by decide, by decide⟩) rfl (by decide +kernel) ⟨Nat.zero_le _, Nat.zero_le _⟩ ?_
          refine zblq Hy.1 Hy.2.1 [(.istore 2, 1)] (S' := (108, [(0, .inr (.inr (some (5, 0)))), (1, .inl x1), (2, .inl r4), (3, .inl x3)], [], zfC M4)) (b := true) (by decide +kernel) rfl rfl ?_
          refine zGo_keep [0, 1, 2, 3] rfl ?_
          exact m5_leastLife_108_ok Hy hE ih x1 r4 x3 M4 h
def m5_leastLife_60 (x1 : Int32) (M : cM) : Option (Int32 × cM) := m5_leastLife_66 zfu x1 (1000 : Int32) (0 : Int32) M
theorem m5_leastLife_60_ok {X : zX} {G : zG} (Hy : zHy X G q5_leastLife zcC 1 23 (some .int)) {r : Int32} {M' : cM} (hE : zEnd X G (some (.inl r)) (zfC M')) (x1 : Int32) (M : cM) (h : m5_leastLife_60 x1 M = some (r, M')) : zGo (X, q5_leastLife, G) 0 0 (60, [(0, .inr (.inr (some (5, 0)))), (1, .inl x1)], [], zfC M) := by
  unfold m5_leastLife_60 at h
  refine zblq Hy.1 Hy.2.1 [(.iconst 1000, 3), (.istore 2, 1), (.iconst 0, 1), (.istore 3, 1)] (S' := (66, [(0, .inr (.inr (some (5, 0)))), (1, .inl x1), (2, .inl (1000 : Int32)), (3, .inl (0 : Int32))], [], zfC M)) (b := true) (by decide +kernel) rfl rfl ?_
  refine zGo_keep [0, 1, 2, 3] rfl ?_
  exact m5_leastLife_66_ok Hy hE zfu x1 (1000 : Int32) (0 : Int32) M h
def m5_leastLife_54 (k10 : Int32 → Int32 → cM → Option (Int32 × cM)) (x1 : Int32) (x2 : Int32) (M : cM) : Option (Int32 × cM) := k10 x1 (x2 + (1 : Int32)) M
theorem m5_leastLife_54_ok {X : zX} {G : zG} (Hy : zHy X G q5_leastLife zcC 1 23 (some .int)) {r : Int32} {M' : cM} (hE : zEnd X G (some (.inl r)) (zfC M')) {k10 : Int32 → Int32 → cM → Option (Int32 × cM)} (hk10 : ∀ (x1 : Int32) (x2 : Int32) (M : cM), k10 x1 x2 M = some (r, M') → zGo (X, q5_leastLife, G) 0 0 (10, [(0, .inr (.inr (some (5, 0)))), (1, .inl x1), (2, .inl x2)], [], zfC M)) (x1 : Int32) (x2 : Int32) (M : cM) (h : m5_leastLife_54 k10 x1 x2 M = some (r, M')) : zGo (X, q5_leastLife, G) 0 0 (54, [(0, .inr (.inr (some (5, 0)))), (1, .inl x1), (2, .inl x2)], [], zfC M) := by
  unfold m5_leastLife_54 at h
  refine zblq Hy.1 Hy.2.1 [(.iinc 2 1, 3), (.ldc 10, 3)] (S' := (10, [(0, .inr (.inr (some (5, 0)))), (1, .inl x1), (2, .inl (x2 + (1 : Int32)))], [], zfC M)) (b := true) (by decide +kernel) rfl rfl ?_
  refine zGo_keep [0, 1, 2] rfl ?_
  exact hk10 x1 (x2 + (1 : Int32)) M h
def m5_leastLife_10 : Nat → Int32 → Int32 → cM → Option (Int32 × cM)
  | 0, _, _, _ => none
  | n + 1, x1, x2, M => (if (cg M 3 0 4) ≤ x2 then m5_leastLife_60 x1 M else (if (10 : Int32) ≤ x2 then m5_leastLife_60 x1 M else zgd (zin x2 10 && true) ((if (cg M 605 0 (nx x2)) < 0 then m5_leastLife_54 (m5_leastLife_10 n) x1 x2 M else (if (10 : Int32) ≤ (cg M 605 0 (nx x2)) then m5_leastLife_54 (m5_leastLife_10 n) x1 x2 M else zgd (zin (cg M 605 0 (nx x2)) 10 && (zin (cg M 605 0 (nx x2)) 10 && true)) (m5_leastLife_54 (m5_leastLife_10 n) x1 x2 (cs M 607 0 (nx (cg M 605 0 (nx x2))) ((cg M 607 0 (nx (cg M 605 0 (nx x2)))) + (1 : Int32)))))))))
theorem m5_leastLife_10_ok {X : zX} {G : zG} (Hy : zHy X G q5_leastLife zcC 1 23 (some .int)) {r : Int32} {M' : cM} (hE : zEnd X G (some (.inl r)) (zfC M')) : ∀ (n : Nat) (x1 : Int32) (x2 : Int32) (M : cM), m5_leastLife_10 n x1 x2 M = some (r, M') → zGo (X, q5_leastLife, G) 0 0 (10, [(0, .inr (.inr (some (5, 0)))), (1, .inl x1), (2, .inl x2)], [], zfC M) := by
  intro n
  induction n with
  | zero => intro x1 x2 M h; cases h
  | succ n ih =>
    intro x1 x2 M h
    unfold m5_leastLife_10 at h
    refine zblq Hy.1 Hy.2.1 [(.iload 2, 1), (.aload 0, 1), (.getfield 500, 3), (.multianewarray 3 4, 3)] (S' := (18, [(0, .inr (.inr (some (5, 0)))), (1, .inl x1), (2, .inl x2)], [.inl (cg M 3 0 4), .inl x2], zfC M)) (b := true) (by decide +kernel) rfl rfl ?_
    refine zic_ge Hy.1 (off := 42) (tgt := 60) (by decide +kernel) (by decide) (fun hb13 => ?_) (fun hb13 => ?_)
    · replace h := zite_t h hb13
      refine zGo_keep [0, 1] rfl ?_
      exact m5_leastLife_60_ok Hy hE x1 M h
    · replace h := zite_f h hb13
      refine zblq Hy.1 Hy.2.1 [(.iload 2, 1), (.iconst 10, 2)] (S' := (24, [(0, .inr (.inr (some (5, 0)))), (1, .inl x1), (2, .inl x2)], [.inl (10 : Int32), .inl x2], zfC M)) (b := true) (by decide +kernel) rfl rfl ?_
      refine zic_ge Hy.1 (off := 36) (tgt := 60) (by decide +kernel) (by decide) (fun hb12 => ?_) (fun hb12 => ?_)
      · replace h := zite_t h hb12
        refine zGo_keep [0, 1] rfl ?_
        exact m5_leastLife_60_ok Hy hE x1 M h
      · replace h := zite_f h hb12
        obtain ⟨hg8, h⟩ := zgd_inv h
        refine zblq Hy.1 Hy.2.1 [(.aload 0, 1), (.getfield 505, 3), (.iload 2, 1), (.iaload, 1), (.istore 3, 1), (.iload 3, 1)] (S' := (35, [(0, .inr (.inr (some (5, 0)))), (1, .inl x1), (2, .inl x2), (3, .inl (cg M 605 0 (nx x2)))], [.inl (cg M 605 0 (nx x2))], zfC M)) (b := zin x2 10 && true) (by decide +kernel) rfl hg8 ?_
        refine zif_lt Hy.1 (off := 19) (tgt := 54) (by decide +kernel) (by decide) (fun hb11 => ?_) (fun hb11 => ?_)
        · replace h := zite_t h hb11
          refine zGo_keep [0, 1, 2] rfl ?_
          exact m5_leastLife_54_ok Hy hE ih x1 x2 M h
        · replace h := zite_f h hb11
          refine zblq Hy.1 Hy.2.1 [(.iload 3, 1), (.iconst 10, 2)] (S' := (41, [(0, .inr (.inr (some (5, 0)))), (1, .inl x1), (2, .inl x2), (3, .inl (cg M 605 0 (nx x2)))], [.inl (10 : Int32), .inl (cg M 605 0 (nx x2))], zfC M)) (b := true) (by decide +kernel) rfl rfl ?_
          refine zic_ge Hy.1 (off := 13) (tgt := 54) (by decide +kernel) (by decide) (fun hb10 => ?_) (fun hb10 => ?_)
          · replace h := zite_t h hb10
            refine zGo_keep [0, 1, 2] rfl ?_
            exact m5_leastLife_54_ok Hy hE ih x1 x2 M h
          · replace h := zite_f h hb10
            obtain ⟨hg9, h⟩ := zgd_inv h
            refine zblq Hy.1 Hy.2.1 [(.aload 0, 1), (.getfield 507, 3), (.iload 3, 1), (.dup2, 1), (.iaload, 1), (.iconst 1, 1), (.iadd, 1), (.iastore, 1)] (S' := (54, [(0, .inr (.inr (some (5, 0)))), (1, .inl x1), (2, .inl x2), (3, .inl (cg M 605 0 (nx x2)))], [], zfC (cs M 607 0 (nx (cg M 605 0 (nx x2))) ((cg M 607 0 (nx (cg M 605 0 (nx x2)))) + (1 : Int32))))) (b := zin (cg M 605 0 (nx x2)) 10 && (zin (cg M 605 0 (nx x2)) 10 && true)) (by decide +kernel) rfl hg9 ?_
            refine zGo_keep [0, 1, 2] rfl ?_
            exact m5_leastLife_54_ok Hy hE ih x1 x2 (cs M 607 0 (nx (cg M 605 0 (nx x2))) ((cg M 607 0 (nx (cg M 605 0 (nx x2)))) + (1 : Int32))) h
def m5_leastLife (x1 : Int32) (M : cM) : Option (Int32 × cM) := zbv (mJ7_fill_607 (0 : Int32) M) (fun M1 => m5_leastLife_10 zfu x1 (1 : Int32) M1)
theorem m5_leastLife_ok {X : zX} {G : zG} (Hy : zHy X G q5_leastLife zcC 1 23 (some .int)) {r : Int32} {M' : cM} (hE : zEnd X G (some (.inl r)) (zfC M')) (x1 : Int32) (M : cM) (h : m5_leastLife x1 M = some (r, M')) : zGo (X, q5_leastLife, G) 0 0 (0, [(0, .inr (.inr (some (5, 0)))), (1, .inl x1)], [], zfC M) := by
  unfold m5_leastLife at h
  refine zblq Hy.1 Hy.2.1 [(.aload 0, 1), (.getfield 507, 3), (.iconst 0, 1)] (S' := (5, [(0, .inr (.inr (some (5, 0)))), (1, .inl x1)], [.inl (0 : Int32), .inr (.inr (some (607, 0)))], zfC M)) (b := true) (by decide +kernel) rfl rfl ?_
  obtain ⟨M1, hc1, h⟩ := zbv_inv h
  refine zcallS Hy.1 (as := [.inr (.inr (some (607, 0))), .inl (0 : Int32)]) (st := []) (mJ7_fill_607_met (zOK_G Hy.1) Hy.2.1 hc1) cw5_78 mJ7_fill_in rfl (zroom Hy.2.2 ⟨by decide, by decide⟩) rfl (by decide +kernel) ⟨Nat.zero_le _, Nat.zero_le _⟩ ?_
  refine zblq Hy.1 Hy.2.1 [(.iconst 1, 1), (.istore 2, 1)] (S' := (10, [(0, .inr (.inr (some (5, 0)))), (1, .inl x1), (2, .inl (1 : Int32))], [], zfC M1)) (b := true) (by decide +kernel) rfl rfl ?_
  refine zGo_keep [0, 1, 2] rfl ?_
  exact m5_leastLife_10_ok Hy hE zfu x1 (1 : Int32) M1 h
theorem m5_leastLife_met {l : Launch} {G : zG} (hG : zGok G) (hcn : zgcn G = zcC) {x1 : Int32} {M : cM} {r : Int32} {M' : cM} (h : m5_leastLife x1 M = some (r, M')) : zMet l G yX5_leastLife cX5_leastLife 4 (some .int) 1 23 [.inr (.inr (some (5, 0))), .inl x1] (zfC M) (some (.inl r)) (zfC M') :=
  zMet_of hG tbX5_ok rfl (by decide +kernel) (Nat.le_of_ble_eq_true rfl) (fun X _ Z hA hE => m5_leastLife_ok ⟨Z, hcn, hA⟩ hE x1 M h)
abbrev q5_nextTree : ByteArray × Nat × String × zT := (cX5_nextTree, 3, RX5, tbX5)
def m5_nextTree_81 (k10 : Int32 → cM → Option (Int32 × cM)) (x1 : Int32) (M : cM) : Option (Int32 × cM) := k10 (x1 + (-1 : Int32)) M
theorem m5_nextTree_81_ok {X : zX} {G : zG} (Hy : zHy X G q5_nextTree zcC 1 21 (some .boolean)) {r : Int32} {M' : cM} (hE : zEnd X G (some (.inl r)) (zfC M')) {k10 : Int32 → cM → Option (Int32 × cM)} (hk10 : ∀ (x1 : Int32) (M : cM), k10 x1 M = some (r, M') → zGo (X, q5_nextTree, G) 0 0 (10, [(0, .inr (.inr (some (5, 0)))), (1, .inl x1)], [], zfC M)) (x1 : Int32) (M : cM) (h : m5_nextTree_81 k10 x1 M = some (r, M')) : zGo (X, q5_nextTree, G) 0 0 (81, [(0, .inr (.inr (some (5, 0)))), (1, .inl x1)], [], zfC M) := by
  unfold m5_nextTree_81 at h
  refine zblq Hy.1 Hy.2.1 [(.iinc 1 (-1), 3), (.ldc 10, 3)] (S' := (10, [(0, .inr (.inr (some (5, 0)))), (1, .inl (x1 + (-1 : Int32)))], [], zfC M)) (b := true) (by decide +kernel) rfl rfl ?_
  refine zGo_keep [0, 1] rfl ?_
  exact hk10 (x1 + (-1 : Int32)) M h
def m5_nextTree_10 : Nat → Int32 → cM → Option (Int32 × cM)
  | 0, _, _ => none
  | n + 1, x1, M => (if x1 < (1 : Int32) then some ((0 : Int32), M) else (if (10 : Int32) ≤ x1 then m5_nextTree_81 (m5_nextTree_10 n) x1 M else zgd (zin x1 10 && true) ((if (cg M 604 0 (nx x1)) = 0 then m5_nextTree_81 (m5_nextTree_10 n) x1 M else zgd (zin x1 10 && (zin x1 10 && true)) ((if ((cg M 604 0 (nx x1)) &&& (-(zshl (2 : Int32) (cg M 605 0 (nx x1))))) = 0 then zgd (zin x1 10 && true) (zbd (mJ6_numberOfTrailingZeros (cg M 604 0 (nx x1)) M) (fun r4 M4 => zgd (zin x1 10 && true) (m5_nextTree_81 (m5_nextTree_10 n) x1 (cs M4 605 0 (nx x1) r4)))) else zbd (mJ6_numberOfTrailingZeros ((cg M 604 0 (nx x1)) &&& (-(zshl (2 : Int32) (cg M 605 0 (nx x1))))) M) (fun r6 M6 => zgd (zin x1 10 && true) (some ((1 : Int32), cs M6 605 0 (nx x1) r6)))))))))
theorem m5_nextTree_10_ok {X : zX} {G : zG} (Hy : zHy X G q5_nextTree zcC 1 21 (some .boolean)) {r : Int32} {M' : cM} (hE : zEnd X G (some (.inl r)) (zfC M')) : ∀ (n : Nat) (x1 : Int32) (M : cM), m5_nextTree_10 n x1 M = some (r, M') → zGo (X, q5_nextTree, G) 0 0 (10, [(0, .inr (.inr (some (5, 0)))), (1, .inl x1)], [], zfC M) := by
  intro n
  induction n with
  | zero => intro x1 M h; cases h
  | succ n ih =>
    intro x1 M h
    unfold m5_nextTree_10 at h
    refine zblq Hy.1 Hy.2.1 [(.iload 1, 1), (.iconst 1, 1)] (S' := (12, [(0, .inr (.inr (some (5, 0)))), (1, .inl x1)], [.inl (1 : Int32), .inl x1], zfC M)) (b := true) (by decide +kernel) rfl rfl ?_
    refine zic_lt Hy.1 (off := 75) (tgt := 87) (by decide +kernel) (by decide) (fun hb11 => ?_) (fun hb11 => ?_)
    · replace h := zite_t h hb11
      refine zblq Hy.1 Hy.2.1 [(.iconst 0, 1)] (S' := (88, [(0, .inr (.inr (some (5, 0)))), (1, .inl x1)], [.inl (0 : Int32)], zfC M)) (b := true) (by decide +kernel) rfl rfl ?_
      cases h
      exact zret_z Hy.1 Hy.2.2 (by decide) hE (by decide +kernel)
    · replace h := zite_f h hb11
      refine zblq Hy.1 Hy.2.1 [(.iload 1, 1), (.iconst 10, 2)] (S' := (18, [(0, .inr (.inr (some (5, 0)))), (1, .inl x1)], [.inl (10 : Int32), .inl x1], zfC M)) (b := true) (by decide +kernel) rfl rfl ?_
      refine zic_ge Hy.1 (off := 63) (tgt := 81) (by decide +kernel) (by decide) (fun hb10 => ?_) (fun hb10 => ?_)
      · replace h := zite_t h hb10
        refine zGo_keep [0, 1] rfl ?_
        exact m5_nextTree_81_ok Hy hE ih x1 M h
      · replace h := zite_f h hb10
        obtain ⟨hg1, h⟩ := zgd_inv h
        refine zblq Hy.1 Hy.2.1 [(.aload 0, 1), (.getfield 504, 3), (.iload 1, 1), (.iaload, 1)] (S' := (27, [(0, .inr (.inr (some (5, 0)))), (1, .inl x1)], [.inl (cg M 604 0 (nx x1))], zfC M)) (b := zin x1 10 && true) (by decide +kernel) rfl hg1 ?_
        refine zif_ne Hy.1 (off := 6) (tgt := 33) (by decide +kernel) (by decide) (fun hb9 => ?_) (fun hb9 => ?_)
        · replace h := zite_f h hb9
          obtain ⟨hg2, h⟩ := zgd_inv h
          refine zblq Hy.1 Hy.2.1 [(.aload 0, 1), (.getfield 504, 3), (.iload 1, 1), (.iaload, 1), (.iconst 2, 1), (.aload 0, 1), (.getfield 505, 3), (.iload 1, 1), (.iaload, 1), (.ishl, 1), (.ineg, 1), (.iand, 1), (.istore 2, 1), (.iload 2, 1)] (S' := (51, [(0, .inr (.inr (some (5, 0)))), (1, .inl x1), (2, .inl ((cg M 604 0 (nx x1)) &&& (-(zshl (2 : Int32) (cg M 605 0 (nx x1))))))], [.inl ((cg M 604 0 (nx x1)) &&& (-(zshl (2 : Int32) (cg M 605 0 (nx x1)))))], zfC M)) (b := zin x1 10 && (zin x1 10 && true)) (by decide +kernel) rfl hg2 ?_
          refine zif_eq Hy.1 (off := 15) (tgt := 66) (by decide +kernel) (by decide) (fun hb8 => ?_) (fun hb8 => ?_)
          · replace h := zite_t h hb8
            obtain ⟨hg3, h⟩ := zgd_inv h
            refine zblq Hy.1 Hy.2.1 [(.aload 0, 1), (.getfield 505, 3), (.iload 1, 1), (.aload 0, 1), (.getfield 504, 3), (.iload 1, 1), (.iaload, 1)] (S' := (77, [(0, .inr (.inr (some (5, 0)))), (1, .inl x1), (2, .inl ((cg M 604 0 (nx x1)) &&& (-(zshl (2 : Int32) (cg M 605 0 (nx x1))))))], [.inl (cg M 604 0 (nx x1)), .inl x1, .inr (.inr (some (605, 0)))], zfC M)) (b := zin x1 10 && true) (by decide +kernel) rfl hg3 ?_
            obtain ⟨r4, M4, hc4, h⟩ := zbd_inv h
            refine zcallS Hy.1 (as := [.inl (cg M 604 0 (nx x1))]) (st := [.inl x1, .inr (.inr (some (605, 0)))]) (mJ6_numberOfTrailingZeros_met (zOK_G Hy.1) Hy.2.1 hc4) cw5_123 mJ6_numberOfTrailingZeros_in rfl (zroom Hy.2.2 ⟨by decide, by decide⟩) rfl (by decide +kernel) ⟨Nat.zero_le _, Nat.zero_le _⟩ ?_
            obtain ⟨hg5, h⟩ := zgd_inv h
            refine zblq Hy.1 Hy.2.1 [(.iastore, 1)] (S' := (81, [(0, .inr (.inr (some (5, 0)))), (1, .inl x1), (2, .inl ((cg M 604 0 (nx x1)) &&& (-(zshl (2 : Int32) (cg M 605 0 (nx x1))))))], [], zfC (cs M4 605 0 (nx x1) r4))) (b := zin x1 10 && true) (by decide +kernel) rfl hg5 ?_
            refine zGo_keep [0, 1] rfl ?_
            exact m5_nextTree_81_ok Hy hE ih x1 (cs M4 605 0 (nx x1) r4) h
          · replace h := zite_f h hb8
            refine zblq Hy.1 Hy.2.1 [(.aload 0, 1), (.getfield 505, 3), (.iload 1, 1), (.iload 2, 1)] (S' := (60, [(0, .inr (.inr (some (5, 0)))), (1, .inl x1), (2, .inl ((cg M 604 0 (nx x1)) &&& (-(zshl (2 : Int32) (cg M 605 0 (nx x1))))))], [.inl ((cg M 604 0 (nx x1)) &&& (-(zshl (2 : Int32) (cg M 605 0 (nx x1))))), .inl x1, .inr (.inr (some (605, 0)))], zfC M)) (b := true) (by decide +kernel) rfl rfl ?_
            obtain ⟨r6, M6, hc6, h⟩ := zbd_inv h
            refine zcallS Hy.1 (as := [.inl ((cg M 604 0 (nx x1)) &&& (-(zshl (2 : Int32) (cg M 605 0 (nx x1)))))]) (st := [.inl x1, .inr (.inr (some (605, 0)))]) (mJ6_numberOfTrailingZeros_met (zOK_G Hy.1) Hy.2.1 hc6) cw5_123 mJ6_numberOfTrailingZeros_in rfl (zroom Hy.2.2 ⟨by decide, by decide⟩) rfl (by decide +kernel) ⟨Nat.zero_le _, Nat.zero_le _⟩ ?_
            obtain ⟨hg7, h⟩ := zgd_inv h
            refine zblq Hy.1 Hy.2.1 [(.iastore, 1), (.iconst 1, 1)] (S' := (65, [(0, .inr (.inr (some (5, 0)))), (1, .inl x1), (2, .inl ((cg M 604 0 (nx x1)) &&& (-(zshl (2 : Int32) (cg M 605 0 (nx x1))))))], [.inl (1 : Int32)], zfC (cs M6 605 0 (nx x1) r6))) (b := zin x1 10 && true) (by decide +kernel) rfl hg7 ?_
            cases h
            exact zret_z Hy.1 Hy.2.2 (by decide) hE (by decide +kernel)
        · replace h := zite_t h hb9
          refine zblq Hy.1 Hy.2.1 [(.ldc 81, 3)] (S' := (81, [(0, .inr (.inr (some (5, 0)))), (1, .inl x1)], [], zfC M)) (b := true) (by decide +kernel) rfl rfl ?_
          refine zGo_keep [0, 1] rfl ?_
          exact m5_nextTree_81_ok Hy hE ih x1 M h
def m5_nextTree  (M : cM) : Option (Int32 × cM) := m5_nextTree_10 zfu ((cg M 3 0 4) - (1 : Int32)) M
theorem m5_nextTree_ok {X : zX} {G : zG} (Hy : zHy X G q5_nextTree zcC 1 21 (some .boolean)) {r : Int32} {M' : cM} (hE : zEnd X G (some (.inl r)) (zfC M'))  (M : cM) (h : m5_nextTree M = some (r, M')) : zGo (X, q5_nextTree, G) 0 0 (0, [(0, .inr (.inr (some (5, 0))))], [], zfC M) := by
  unfold m5_nextTree at h
  refine zblq Hy.1 Hy.2.1 [(.aload 0, 1), (.getfield 500, 3), (.multianewarray 3 4, 3), (.iconst 1, 1), (.isub, 1), (.istore 1, 1)] (S' := (10, [(0, .inr (.inr (some (5, 0)))), (1, .inl ((cg M 3 0 4) - (1 : Int32)))], [], zfC M)) (b := true) (by decide +kernel) rfl rfl ?_
  refine zGo_keep [0, 1] rfl ?_
  exact m5_nextTree_10_ok Hy hE zfu ((cg M 3 0 4) - (1 : Int32)) M h
theorem m5_nextTree_met {l : Launch} {G : zG} (hG : zGok G) (hcn : zgcn G = zcC)  {M : cM} {r : Int32} {M' : cM} (h : m5_nextTree M = some (r, M')) : zMet l G yX5_nextTree cX5_nextTree 3 (some .boolean) 1 21 [.inr (.inr (some (5, 0)))] (zfC M) (some (.inl r)) (zfC M') :=
  zMet_of hG tbX5_ok rfl (by decide +kernel) (Nat.le_of_ble_eq_true rfl) (fun X _ Z hA hE => m5_nextTree_ok ⟨Z, hcn, hA⟩ hE M h)
abbrev q5_findLongest : ByteArray × Nat × String × zT := (cX5_findLongest, 5, RX5, tbX5)
def m5_findLongest_122 (k84 : Int32 → Int32 → Int32 → cM → Option (Int32 × cM)) (x1 : Int32) (x2 : Int32) (x3 : Int32) (M : cM) : Option (Int32 × cM) := zbd (m5_nextTree M) (fun r6 M6 => (if r6 = 0 then some (x2, M6) else k84 x1 x2 (x3 + (1 : Int32)) M6))
theorem m5_findLongest_122_ok {X : zX} {G : zG} (Hy : zHy X G q5_findLongest zcC 4 93 (some .int)) {r : Int32} {M' : cM} (hE : zEnd X G (some (.inl r)) (zfC M')) {k84 : Int32 → Int32 → Int32 → cM → Option (Int32 × cM)} (hk84 : ∀ (x1 : Int32) (x2 : Int32) (x3 : Int32) (M : cM), k84 x1 x2 x3 M = some (r, M') → zGo (X, q5_findLongest, G) 0 0 (84, [(0, .inr (.inr (some (5, 0)))), (1, .inl x1), (2, .inl x2), (3, .inl x3)], [], zfC M)) (x1 : Int32) (x2 : Int32) (x3 : Int32) (M : cM) (h : m5_findLongest_122 k84 x1 x2 x3 M = some (r, M')) : zGo (X, q5_findLongest, G) 0 0 (122, [(0, .inr (.inr (some (5, 0)))), (1, .inl x1), (2, .inl x2), (3, .inl x3)], [], zfC M) := by
  unfold m5_findLongest_122 at h
  refine zblq Hy.1 Hy.2.1 [(.aload 0, 1)] (S' := (123, [(0, .inr (.inr (some (5, 0)))), (1, .inl x1), (2, .inl x2), (3, .inl x3)], [.inr (.inr (some (5, 0)))], zfC M)) (b := true) (by decide +kernel) rfl rfl ?_
  obtain ⟨r6, M6, hc6, h⟩ := zbd_inv h
  refine zcallV Hy.1 (as := []) (st := []) (m5_nextTree_met (zOK_G Hy.1) Hy.2.1 hc6) cw5_107 m5_nextTree_in m5_nextTree_se (by decide) (zhlv Hy.2.1 rfl) rfl (zroom Hy.2.2 ⟨by decide, by decide⟩) rfl (by decide +kernel) ⟨Nat.zero_le _, Nat.zero_le _⟩ ?_
  refine zif_ne Hy.1 (off := 6) (tgt := 132) (by decide +kernel) (by decide) (fun hb7 => ?_) (fun hb7 => ?_)
  · replace h := zite_f h hb7
    refine zblq Hy.1 Hy.2.1 [(.iinc 3 1, 3), (.ldc 84, 3)] (S' := (84, [(0, .inr (.inr (some (5, 0)))), (1, .inl x1), (2, .inl x2), (3, .inl (x3 + (1 : Int32)))], [], zfC M6)) (b := true) (by decide +kernel) rfl rfl ?_
    refine zGo_keep [0, 1, 2, 3] rfl ?_
    exact hk84 x1 x2 (x3 + (1 : Int32)) M6 h
  · replace h := zite_t h hb7
    refine zblq Hy.1 Hy.2.1 [(.ldc 138, 3), (.iload 2, 1)] (S' := (139, [(0, .inr (.inr (some (5, 0)))), (1, .inl x1), (2, .inl x2), (3, .inl x3)], [.inl x2], zfC M6)) (b := true) (by decide +kernel) rfl rfl ?_
    cases h
    exact zret_i Hy.1 Hy.2.2 hE (by decide +kernel)
def m5_findLongest_84 : Nat → Int32 → Int32 → Int32 → cM → Option (Int32 × cM)
  | 0, _, _, _, _ => none
  | n + 1, x1, x2, x3, M => (if (20000 : Int32) ≤ x3 then some (x2, M) else zbd (m5_leastLife x1 M) (fun r5 M5 => (if r5 ≤ x2 then m5_findLongest_122 (m5_findLongest_84 n) x1 x2 x3 M5 else m5_findLongest_122 (m5_findLongest_84 n) x1 r5 x3 (ccopy M5 605 606))))
theorem m5_findLongest_84_ok {X : zX} {G : zG} (Hy : zHy X G q5_findLongest zcC 4 93 (some .int)) {r : Int32} {M' : cM} (hE : zEnd X G (some (.inl r)) (zfC M')) : ∀ (n : Nat) (x1 : Int32) (x2 : Int32) (x3 : Int32) (M : cM), m5_findLongest_84 n x1 x2 x3 M = some (r, M') → zGo (X, q5_findLongest, G) 0 0 (84, [(0, .inr (.inr (some (5, 0)))), (1, .inl x1), (2, .inl x2), (3, .inl x3)], [], zfC M) := by
  intro n
  induction n with
  | zero => intro x1 x2 x3 M h; cases h
  | succ n ih =>
    intro x1 x2 x3 M h
    unfold m5_findLongest_84 at h
    refine zblq Hy.1 Hy.2.1 [(.iload 3, 1), (.iconst 20000, 3)] (S' := (88, [(0, .inr (.inr (some (5, 0)))), (1, .inl x1), (2, .inl x2), (3, .inl x3)], [.inl (20000 : Int32), .inl x3], zfC M)) (b := true) (by decide +kernel) rfl rfl ?_
    refine zic_ge Hy.1 (off := 50) (tgt := 138) (by decide +kernel) (by decide) (fun hb9 => ?_) (fun hb9 => ?_)
    · replace h := zite_t h hb9
      refine zblq Hy.1 Hy.2.1 [(.iload 2, 1)] (S' := (139, [(0, .inr (.inr (some (5, 0)))), (1, .inl x1), (2, .inl x2), (3, .inl x3)], [.inl x2], zfC M)) (b := true) (by decide +kernel) rfl rfl ?_
      cases h
      exact zret_i Hy.1 Hy.2.2 hE (by decide +kernel)
    · replace h := zite_f h hb9
      refine zblq Hy.1 Hy.2.1 [(.aload 0, 1), (.iload 1, 1)] (S' := (93, [(0, .inr (.inr (some (5, 0)))), (1, .inl x1), (2, .inl x2), (3, .inl x3)], [.inl x1, .inr (.inr (some (5, 0)))], zfC M)) (b := true) (by decide +kernel) rfl rfl ?_
      obtain ⟨r5, M5, hc5, h⟩ := zbd_inv h
      refine zcallV Hy.1 (as := [.inl x1]) (st := []) (m5_leastLife_met (zOK_G Hy.1) Hy.2.1 hc5) cw5_98 m5_leastLife_in m5_leastLife_se (by decide) (zhlv Hy.2.1 rfl) rfl (zroom Hy.2.2 ⟨by decide, by decide⟩) rfl (by decide +kernel) ⟨Nat.zero_le _, Nat.zero_le _⟩ ?_
      refine zblq Hy.1 Hy.2.1 [(.istore 4, 2), (.iload 4, 2), (.iload 2, 1)] (S' := (101, [(0, .inr (.inr (some (5, 0)))), (1, .inl x1), (2, .inl x2), (3, .inl x3), (4, .inl r5)], [.inl x2, .inl r5], zfC M5)) (b := true) (by decide +kernel) rfl rfl ?_
      refine zic_le Hy.1 (off := 21) (tgt := 122) (by decide +kernel) (by decide) (fun hb8 => ?_) (fun hb8 => ?_)
      · replace h := zite_t h hb8
        refine zGo_keep [0, 1, 2, 3] rfl ?_
        exact m5_findLongest_122_ok Hy hE ih x1 x2 x3 M5 h
      · replace h := zite_f h hb8
        refine zblq Hy.1 Hy.2.1 [(.iload 4, 2), (.istore 2, 1), (.aload 0, 1), (.getfield 505, 3), (.iconst 0, 1), (.aload 0, 1), (.getfield 506, 3), (.iconst 0, 1), (.iconst 10, 2)] (S' := (119, [(0, .inr (.inr (some (5, 0)))), (1, .inl x1), (2, .inl r5), (3, .inl x3), (4, .inl r5)], [.inl (10 : Int32), .inl (0 : Int32), .inr (.inr (some (606, 0))), .inl (0 : Int32), .inr (.inr (some (605, 0)))], zfC M5)) (b := true) (by decide +kernel) rfl rfl ?_
        refine z_acopy Hy.1 Hy.2.1 (idx := 101) (zt_of (zq_5 (List.mem_of_getElem? (i := 63) rfl)) rfl) (zt_of (zq_5 (List.mem_of_getElem? (i := 65) rfl)) rfl) (zt_of (zq_5 (List.mem_of_getElem? (i := 64) rfl)) rfl) (zt_of (zq_1 (List.mem_of_getElem? (i := 21) rfl)) rfl) (zroomN Hy.2.2 ⟨by decide, by decide⟩) (by decide +kernel) ?_
        refine zGo_keep [0, 1, 2, 3] rfl ?_
        exact m5_findLongest_122_ok Hy hE ih x1 r5 x3 (ccopy M5 605 606) h
def m5_findLongest_71 (k43 : Int32 → Int32 → cM → Option (Int32 × cM)) (x1 : Int32) (x2 : Int32) (t1 : Int32) (t2 : Int32) (M : cM) : Option (Int32 × cM) := zbv (m5_foreseeLives t1 t2 M) (fun M11 => k43 x1 (x2 + (1 : Int32)) M11)
theorem m5_findLongest_71_ok {X : zX} {G : zG} (Hy : zHy X G q5_findLongest zcC 4 93 (some .int)) {r : Int32} {M' : cM} (hE : zEnd X G (some (.inl r)) (zfC M')) {k43 : Int32 → Int32 → cM → Option (Int32 × cM)} (hk43 : ∀ (x1 : Int32) (x2 : Int32) (M : cM), k43 x1 x2 M = some (r, M') → zGo (X, q5_findLongest, G) 0 0 (43, [(0, .inr (.inr (some (5, 0)))), (1, .inl x1), (2, .inl x2)], [], zfC M)) (x1 : Int32) (x2 : Int32) (t1 : Int32) (t2 : Int32) (M : cM) (h : m5_findLongest_71 k43 x1 x2 t1 t2 M = some (r, M')) : zGo (X, q5_findLongest, G) 0 0 (71, [(0, .inr (.inr (some (5, 0)))), (1, .inl x1), (2, .inl x2)], [.inl t2, .inl t1, .inr (.inr (some (5, 0)))], zfC M) := by
  unfold m5_findLongest_71 at h
  obtain ⟨M11, hc11, h⟩ := zbv_inv h
  refine zcallV Hy.1 (as := [.inl t1, .inl t2]) (st := []) (m5_foreseeLives_met (zOK_G Hy.1) Hy.2.1 hc11) cw5_70 m5_foreseeLives_in m5_foreseeLives_se (by decide) (zhlv Hy.2.1 rfl) rfl (zroom Hy.2.2 ⟨by decide, by decide⟩) rfl (by decide +kernel) ⟨Nat.zero_le _, Nat.zero_le _⟩ ?_
  refine zblq Hy.1 Hy.2.1 [(.iinc 2 1, 3), (.ldc 43, 3)] (S' := (43, [(0, .inr (.inr (some (5, 0)))), (1, .inl x1), (2, .inl (x2 + (1 : Int32)))], [], zfC M11)) (b := true) (by decide +kernel) rfl rfl ?_
  refine zGo_keep [0, 1, 2] rfl ?_
  exact hk43 x1 (x2 + (1 : Int32)) M11 h
def m5_findLongest_43 : Nat → Int32 → Int32 → cM → Option (Int32 × cM)
  | 0, _, _, _ => none
  | n + 1, x1, x2, M => (if (cg M 3 0 4) ≤ x2 then m5_findLongest_84 zfu x1 (-1 : Int32) (0 : Int32) M else zgd (zin x2 10 && true) ((if (cg M 605 0 (nx x2)) = (-1 : Int32) then m5_findLongest_71 (m5_findLongest_43 n) x1 x2 x2 (0 : Int32) M else m5_findLongest_71 (m5_findLongest_43 n) x1 x2 x2 (1 : Int32) M)))
theorem m5_findLongest_43_ok {X : zX} {G : zG} (Hy : zHy X G q5_findLongest zcC 4 93 (some .int)) {r : Int32} {M' : cM} (hE : zEnd X G (some (.inl r)) (zfC M')) : ∀ (n : Nat) (x1 : Int32) (x2 : Int32) (M : cM), m5_findLongest_43 n x1 x2 M = some (r, M') → zGo (X, q5_findLongest, G) 0 0 (43, [(0, .inr (.inr (some (5, 0)))), (1, .inl x1), (2, .inl x2)], [], zfC M) := by
  intro n
  induction n with
  | zero => intro x1 x2 M h; cases h
  | succ n ih =>
    intro x1 x2 M h
    unfold m5_findLongest_43 at h
    refine zblq Hy.1 Hy.2.1 [(.iload 2, 1), (.aload 0, 1), (.getfield 500, 3), (.multianewarray 3 4, 3)] (S' := (51, [(0, .inr (.inr (some (5, 0)))), (1, .inl x1), (2, .inl x2)], [.inl (cg M 3 0 4), .inl x2], zfC M)) (b := true) (by decide +kernel) rfl rfl ?_
    refine zic_ge Hy.1 (off := 29) (tgt := 80) (by decide +kernel) (by decide) (fun hb13 => ?_) (fun hb13 => ?_)
    · replace h := zite_t h hb13
      refine zblq Hy.1 Hy.2.1 [(.iconst (-1), 1), (.istore 2, 1), (.iconst 0, 1), (.istore 3, 1)] (S' := (84, [(0, .inr (.inr (some (5, 0)))), (1, .inl x1), (2, .inl (-1 : Int32)), (3, .inl (0 : Int32))], [], zfC M)) (b := true) (by decide +kernel) rfl rfl ?_
      refine zGo_keep [0, 1, 2, 3] rfl ?_
      exact m5_findLongest_84_ok Hy hE zfu x1 (-1 : Int32) (0 : Int32) M h
    · replace h := zite_f h hb13
      obtain ⟨hg10, h⟩ := zgd_inv h
      refine zblq Hy.1 Hy.2.1 [(.aload 0, 1), (.iload 2, 1), (.aload 0, 1), (.getfield 505, 3), (.iload 2, 1), (.iaload, 1), (.iconst (-1), 1)] (S' := (63, [(0, .inr (.inr (some (5, 0)))), (1, .inl x1), (2, .inl x2)], [.inl (-1 : Int32), .inl (cg M 605 0 (nx x2)), .inl x2, .inr (.inr (some (5, 0)))], zfC M)) (b := zin x2 10 && true) (by decide +kernel) rfl hg10 ?_
      refine zic_eq Hy.1 (off := 7) (tgt := 70) (by decide +kernel) (by decide) (fun hb12 => ?_) (fun hb12 => ?_)
      · replace h := zite_t h hb12
        refine zblq Hy.1 Hy.2.1 [(.iconst 0, 1)] (S' := (71, [(0, .inr (.inr (some (5, 0)))), (1, .inl x1), (2, .inl x2)], [.inl (0 : Int32), .inl x2, .inr (.inr (some (5, 0)))], zfC M)) (b := true) (by decide +kernel) rfl rfl ?_
        refine zGo_keep [0, 1, 2] rfl ?_
        exact m5_findLongest_71_ok Hy hE ih x1 x2 x2 (0 : Int32) M h
      · replace h := zite_f h hb12
        refine zblq Hy.1 Hy.2.1 [(.iconst 1, 1), (.ldc 71, 3)] (S' := (71, [(0, .inr (.inr (some (5, 0)))), (1, .inl x1), (2, .inl x2)], [.inl (1 : Int32), .inl x2, .inr (.inr (some (5, 0)))], zfC M)) (b := true) (by decide +kernel) rfl rfl ?_
        refine zGo_keep [0, 1, 2] rfl ?_
        exact m5_findLongest_71_ok Hy hE ih x1 x2 x2 (1 : Int32) M h
def m5_findLongest  (M : cM) : Option (Int32 × cM) := zbv (mJ7_fill_606 (-1 : Int32) M) (fun M1 => zbd (m3_living M1) (fun r2 M2 => (if r2 = 0 then some ((-1 : Int32), M2) else zbv (m5_findSteps r2 M2) (fun M3 => zbd (m5_findNearer r2 M3) (fun r4 M4 => (if r4 ≤ (20000 : Int32) then m5_findLongest_43 zfu r2 (0 : Int32) M4 else some ((-4 : Int32), M4)))))))
theorem m5_findLongest_ok {X : zX} {G : zG} (Hy : zHy X G q5_findLongest zcC 4 93 (some .int)) {r : Int32} {M' : cM} (hE : zEnd X G (some (.inl r)) (zfC M'))  (M : cM) (h : m5_findLongest M = some (r, M')) : zGo (X, q5_findLongest, G) 0 0 (0, [(0, .inr (.inr (some (5, 0))))], [], zfC M) := by
  unfold m5_findLongest at h
  refine zblq Hy.1 Hy.2.1 [(.aload 0, 1), (.getfield 506, 3), (.iconst (-1), 1)] (S' := (5, [(0, .inr (.inr (some (5, 0))))], [.inl (-1 : Int32), .inr (.inr (some (606, 0)))], zfC M)) (b := true) (by decide +kernel) rfl rfl ?_
  obtain ⟨M1, hc1, h⟩ := zbv_inv h
  refine zcallS Hy.1 (as := [.inr (.inr (some (606, 0))), .inl (-1 : Int32)]) (st := []) (mJ7_fill_606_met (zOK_G Hy.1) Hy.2.1 hc1) cw5_78 mJ7_fill_in rfl (zroom Hy.2.2 ⟨by decide, by decide⟩) rfl (by decide +kernel) ⟨Nat.zero_le _, Nat.zero_le _⟩ ?_
  refine zblq Hy.1 Hy.2.1 [(.aload 0, 1), (.getfield 500, 3)] (S' := (12, [(0, .inr (.inr (some (5, 0))))], [.inr (.inr (some (3, 0)))], zfC M1)) (b := true) (by decide +kernel) rfl rfl ?_
  obtain ⟨r2, M2, hc2, h⟩ := zbd_inv h
  refine zcallV Hy.1 (as := []) (st := []) (m3_living_met (zOK_G Hy.1) Hy.2.1 hc2) cw5_84 m3_living_in m3_living_se (by decide) (zhlv Hy.2.1 rfl) rfl (zroom Hy.2.2 ⟨by decide, by decide⟩) rfl (by decide +kernel) ⟨Nat.zero_le _, Nat.zero_le _⟩ ?_
  refine zblq Hy.1 Hy.2.1 [(.istore 1, 1), (.iload 1, 1)] (S' := (17, [(0, .inr (.inr (some (5, 0)))), (1, .inl r2)], [.inl r2], zfC M2)) (b := true) (by decide +kernel) rfl rfl ?_
  refine zif_ne Hy.1 (off := 5) (tgt := 22) (by decide +kernel) (by decide) (fun hb15 => ?_) (fun hb15 => ?_)
  · replace h := zite_f h hb15
    refine zblq Hy.1 Hy.2.1 [(.aload 0, 1), (.iload 1, 1)] (S' := (24, [(0, .inr (.inr (some (5, 0)))), (1, .inl r2)], [.inl r2, .inr (.inr (some (5, 0)))], zfC M2)) (b := true) (by decide +kernel) rfl rfl ?_
    obtain ⟨M3, hc3, h⟩ := zbv_inv h
    refine zcallV Hy.1 (as := [.inl r2]) (st := []) (m5_findSteps_met (zOK_G Hy.1) Hy.2.1 hc3) cw5_88 m5_findSteps_in m5_findSteps_se (by decide) (zhlv Hy.2.1 rfl) rfl (zroom Hy.2.2 ⟨by decide, by decide⟩) rfl (by decide +kernel) ⟨Nat.zero_le _, Nat.zero_le _⟩ ?_
    refine zblq Hy.1 Hy.2.1 [(.aload 0, 1), (.iload 1, 1)] (S' := (29, [(0, .inr (.inr (some (5, 0)))), (1, .inl r2)], [.inl r2, .inr (.inr (some (5, 0)))], zfC M3)) (b := true) (by decide +kernel) rfl rfl ?_
    obtain ⟨r4, M4, hc4, h⟩ := zbd_inv h
    refine zcallV Hy.1 (as := [.inl r2]) (st := []) (m5_findNearer_met (zOK_G Hy.1) Hy.2.1 hc4) cw5_92 m5_findNearer_in m5_findNearer_se (by decide) (zhlv Hy.2.1 rfl) rfl (zroom Hy.2.2 ⟨by decide, by decide⟩) rfl (by decide +kernel) ⟨Nat.zero_le _, Nat.zero_le _⟩ ?_
    refine zblq Hy.1 Hy.2.1 [(.iconst 20000, 3)] (S' := (35, [(0, .inr (.inr (some (5, 0)))), (1, .inl r2)], [.inl (20000 : Int32), .inl r4], zfC M4)) (b := true) (by decide +kernel) rfl rfl ?_
    refine zic_le Hy.1 (off := 6) (tgt := 41) (by decide +kernel) (by decide) (fun hb14 => ?_) (fun hb14 => ?_)
    · replace h := zite_t h hb14
      refine zblq Hy.1 Hy.2.1 [(.iconst 0, 1), (.istore 2, 1)] (S' := (43, [(0, .inr (.inr (some (5, 0)))), (1, .inl r2), (2, .inl (0 : Int32))], [], zfC M4)) (b := true) (by decide +kernel) rfl rfl ?_
      refine zGo_keep [0, 1, 2] rfl ?_
      exact m5_findLongest_43_ok Hy hE zfu r2 (0 : Int32) M4 h
    · replace h := zite_f h hb14
      refine zblq Hy.1 Hy.2.1 [(.iconst (-4), 2)] (S' := (40, [(0, .inr (.inr (some (5, 0)))), (1, .inl r2)], [.inl (-4 : Int32)], zfC M4)) (b := true) (by decide +kernel) rfl rfl ?_
      cases h
      exact zret_i Hy.1 Hy.2.2 hE (by decide +kernel)
  · replace h := zite_t h hb15
    refine zblq Hy.1 Hy.2.1 [(.iconst (-1), 1)] (S' := (21, [(0, .inr (.inr (some (5, 0)))), (1, .inl r2)], [.inl (-1 : Int32)], zfC M2)) (b := true) (by decide +kernel) rfl rfl ?_
    cases h
    exact zret_i Hy.1 Hy.2.2 hE (by decide +kernel)
theorem m5_findLongest_met {l : Launch} {G : zG} (hG : zGok G) (hcn : zgcn G = zcC)  {M : cM} {r : Int32} {M' : cM} (h : m5_findLongest M = some (r, M')) : zMet l G yX5_findLongest cX5_findLongest 5 (some .int) 4 93 [.inr (.inr (some (5, 0)))] (zfC M) (some (.inl r)) (zfC M') :=
  zMet_of hG tbX5_ok rfl (by decide +kernel) (Nat.le_of_ble_eq_true rfl) (fun X _ Z hA hE => m5_findLongest_ok ⟨Z, hcn, hA⟩ hE M h)
abbrev q11_longest : ByteArray × Nat × String × zT := (cX11_longest, 1, RX11, tbX11)
def m11_longest  (M : cM) : Option (Int32 × cM) := zbd (m5_findLongest M) (fun r1 M1 => some (r1, M1))
theorem m11_longest_ok {X : zX} {G : zG} (Hy : zHy X G q11_longest zcC 5 117 (some .int)) {r : Int32} {M' : cM} (hE : zEnd X G (some (.inl r)) (zfC M'))  (M : cM) (h : m11_longest M = some (r, M')) : zGo (X, q11_longest, G) 0 0 (0, [(0, .inr (.inr (some (11, 0))))], [], zfC M) := by
  unfold m11_longest at h
  refine zblq Hy.1 Hy.2.1 [(.aload 0, 1), (.getfield 1103, 3)] (S' := (4, [(0, .inr (.inr (some (11, 0))))], [.inr (.inr (some (5, 0)))], zfC M)) (b := true) (by decide +kernel) rfl rfl ?_
  obtain ⟨r1, M1, hc1, h⟩ := zbd_inv h
  refine zcallV Hy.1 (as := []) (st := []) (m5_findLongest_met (zOK_G Hy.1) Hy.2.1 hc1) cw11_233 m5_findLongest_in m5_findLongest_se (by decide) (zhlv Hy.2.1 rfl) rfl (zroom Hy.2.2 ⟨by decide, by decide⟩) rfl (by decide +kernel) ⟨Nat.zero_le _, Nat.zero_le _⟩ ?_
  cases h
  exact zret_i Hy.1 Hy.2.2 hE (by decide +kernel)
theorem m11_longest_met {l : Launch} {G : zG} (hG : zGok G) (hcn : zgcn G = zcC)  {M : cM} {r : Int32} {M' : cM} (h : m11_longest M = some (r, M')) : zMet l G yX11_longest cX11_longest 1 (some .int) 5 117 [.inr (.inr (some (11, 0)))] (zfC M) (some (.inl r)) (zfC M') :=
  zMet_of hG tbX11_ok rfl (by decide +kernel) (Nat.le_of_ble_eq_true rfl) (fun X _ Z hA hE => m11_longest_ok ⟨Z, hcn, hA⟩ hE M h)
abbrev q5_parentInLongest : ByteArray × Nat × String × zT := (cX5_parentInLongest, 2, RX5, tbX5)
def m5_parentInLongest (x1 : Int32) (M : cM) : Option (Int32 × cM) := (if x1 < 0 then some ((-1 : Int32), M) else (if (10 : Int32) ≤ x1 then some ((-1 : Int32), M) else zgd (zin x1 10 && true) (some (cg M 606 0 (nx x1), M))))
theorem m5_parentInLongest_ok {X : zX} {G : zG} (Hy : zHy X G q5_parentInLongest zcC 0 0 (some .int)) {r : Int32} {M' : cM} (hE : zEnd X G (some (.inl r)) (zfC M')) (x1 : Int32) (M : cM) (h : m5_parentInLongest x1 M = some (r, M')) : zGo (X, q5_parentInLongest, G) 0 0 (0, [(0, .inr (.inr (some (5, 0)))), (1, .inl x1)], [], zfC M) := by
  unfold m5_parentInLongest at h
  refine zblq Hy.1 Hy.2.1 [(.iload 1, 1)] (S' := (1, [(0, .inr (.inr (some (5, 0)))), (1, .inl x1)], [.inl x1], zfC M)) (b := true) (by decide +kernel) rfl rfl ?_
  refine zif_lt Hy.1 (off := 18) (tgt := 19) (by decide +kernel) (by decide) (fun hb3 => ?_) (fun hb3 => ?_)
  · replace h := zite_t h hb3
    refine zblq Hy.1 Hy.2.1 [(.iconst (-1), 1)] (S' := (20, [(0, .inr (.inr (some (5, 0)))), (1, .inl x1)], [.inl (-1 : Int32)], zfC M)) (b := true) (by decide +kernel) rfl rfl ?_
    cases h
    exact zret_i Hy.1 Hy.2.2 hE (by decide +kernel)
  · replace h := zite_f h hb3
    refine zblq Hy.1 Hy.2.1 [(.iload 1, 1), (.iconst 10, 2)] (S' := (7, [(0, .inr (.inr (some (5, 0)))), (1, .inl x1)], [.inl (10 : Int32), .inl x1], zfC M)) (b := true) (by decide +kernel) rfl rfl ?_
    refine zic_ge Hy.1 (off := 12) (tgt := 19) (by decide +kernel) (by decide) (fun hb2 => ?_) (fun hb2 => ?_)
    · replace h := zite_t h hb2
      refine zblq Hy.1 Hy.2.1 [(.iconst (-1), 1)] (S' := (20, [(0, .inr (.inr (some (5, 0)))), (1, .inl x1)], [.inl (-1 : Int32)], zfC M)) (b := true) (by decide +kernel) rfl rfl ?_
      cases h
      exact zret_i Hy.1 Hy.2.2 hE (by decide +kernel)
    · replace h := zite_f h hb2
      obtain ⟨hg1, h⟩ := zgd_inv h
      refine zblq Hy.1 Hy.2.1 [(.aload 0, 1), (.getfield 506, 3), (.iload 1, 1), (.iaload, 1), (.ldc 20, 3)] (S' := (20, [(0, .inr (.inr (some (5, 0)))), (1, .inl x1)], [.inl (cg M 606 0 (nx x1))], zfC M)) (b := zin x1 10 && true) (by decide +kernel) rfl hg1 ?_
      cases h
      exact zret_i Hy.1 Hy.2.2 hE (by decide +kernel)
theorem m5_parentInLongest_met {l : Launch} {G : zG} (hG : zGok G) (hcn : zgcn G = zcC) {x1 : Int32} {M : cM} {r : Int32} {M' : cM} (h : m5_parentInLongest x1 M = some (r, M')) : zMet l G yX5_parentInLongest cX5_parentInLongest 2 (some .int) 0 0 [.inr (.inr (some (5, 0))), .inl x1] (zfC M) (some (.inl r)) (zfC M') :=
  zMet_of hG tbX5_ok rfl (by decide +kernel) (Nat.le_of_ble_eq_true rfl) (fun X _ Z hA hE => m5_parentInLongest_ok ⟨Z, hcn, hA⟩ hE x1 M h)
abbrev q11_best : ByteArray × Nat × String × zT := (cX11_best, 2, RX11, tbX11)
def m11_best (x1 : Int32) (M : cM) : Option (Int32 × cM) := zbd (m3_knows x1 M) (fun r1 M1 => (if r1 = 0 then some ((-2 : Int32), M1) else zbd (m5_findLongest M1) (fun r2 M2 => (if r2 = (-4 : Int32) then some ((-4 : Int32), M2) else zbd (m5_parentInLongest x1 M2) (fun r3 M3 => some (r3, M3))))))
theorem m11_best_ok {X : zX} {G : zG} (Hy : zHy X G q11_best zcC 5 117 (some .int)) {r : Int32} {M' : cM} (hE : zEnd X G (some (.inl r)) (zfC M')) (x1 : Int32) (M : cM) (h : m11_best x1 M = some (r, M')) : zGo (X, q11_best, G) 0 0 (0, [(0, .inr (.inr (some (11, 0)))), (1, .inl x1)], [], zfC M) := by
  unfold m11_best at h
  refine zblq Hy.1 Hy.2.1 [(.aload 0, 1), (.getfield 1100, 3), (.iload 1, 1)] (S' := (5, [(0, .inr (.inr (some (11, 0)))), (1, .inl x1)], [.inl x1, .inr (.inr (some (3, 0)))], zfC M)) (b := true) (by decide +kernel) rfl rfl ?_
  obtain ⟨r1, M1, hc1, h⟩ := zbd_inv h
  refine zcallV Hy.1 (as := [.inl x1]) (st := []) (m3_knows_met (zOK_G Hy.1) Hy.2.1 hc1) cw11_74 m3_knows_in m3_knows_se (by decide) (zhlv Hy.2.1 rfl) rfl (zroom Hy.2.2 ⟨by decide, by decide⟩) rfl (by decide +kernel) ⟨Nat.zero_le _, Nat.zero_le _⟩ ?_
  refine zif_ne Hy.1 (off := 6) (tgt := 14) (by decide +kernel) (by decide) (fun hb5 => ?_) (fun hb5 => ?_)
  · replace h := zite_f h hb5
    refine zblq Hy.1 Hy.2.1 [(.aload 0, 1), (.getfield 1103, 3)] (S' := (18, [(0, .inr (.inr (some (11, 0)))), (1, .inl x1)], [.inr (.inr (some (5, 0)))], zfC M1)) (b := true) (by decide +kernel) rfl rfl ?_
    obtain ⟨r2, M2, hc2, h⟩ := zbd_inv h
    refine zcallV Hy.1 (as := []) (st := []) (m5_findLongest_met (zOK_G Hy.1) Hy.2.1 hc2) cw11_233 m5_findLongest_in m5_findLongest_se (by decide) (zhlv Hy.2.1 rfl) rfl (zroom Hy.2.2 ⟨by decide, by decide⟩) rfl (by decide +kernel) ⟨Nat.zero_le _, Nat.zero_le _⟩ ?_
    refine zblq Hy.1 Hy.2.1 [(.iconst (-4), 2)] (S' := (23, [(0, .inr (.inr (some (11, 0)))), (1, .inl x1)], [.inl (-4 : Int32), .inl r2], zfC M2)) (b := true) (by decide +kernel) rfl rfl ?_
    refine zic_ne Hy.1 (off := 6) (tgt := 29) (by decide +kernel) (by decide) (fun hb4 => ?_) (fun hb4 => ?_)
    · replace h := zite_f h hb4
      refine zblq Hy.1 Hy.2.1 [(.aload 0, 1), (.getfield 1103, 3), (.iload 1, 1)] (S' := (34, [(0, .inr (.inr (some (11, 0)))), (1, .inl x1)], [.inl x1, .inr (.inr (some (5, 0)))], zfC M2)) (b := true) (by decide +kernel) rfl rfl ?_
      obtain ⟨r3, M3, hc3, h⟩ := zbd_inv h
      refine zcallV Hy.1 (as := [.inl x1]) (st := []) (m5_parentInLongest_met (zOK_G Hy.1) Hy.2.1 hc3) cw11_236 m5_parentInLongest_in m5_parentInLongest_se (by decide) (zhlv Hy.2.1 rfl) rfl (zroom Hy.2.2 ⟨by decide, by decide⟩) rfl (by decide +kernel) ⟨Nat.zero_le _, Nat.zero_le _⟩ ?_
      cases h
      exact zret_i Hy.1 Hy.2.2 hE (by decide +kernel)
    · replace h := zite_t h hb4
      refine zblq Hy.1 Hy.2.1 [(.iconst (-4), 2)] (S' := (28, [(0, .inr (.inr (some (11, 0)))), (1, .inl x1)], [.inl (-4 : Int32)], zfC M2)) (b := true) (by decide +kernel) rfl rfl ?_
      cases h
      exact zret_i Hy.1 Hy.2.2 hE (by decide +kernel)
  · replace h := zite_t h hb5
    refine zblq Hy.1 Hy.2.1 [(.iconst (-2), 2)] (S' := (13, [(0, .inr (.inr (some (11, 0)))), (1, .inl x1)], [.inl (-2 : Int32)], zfC M1)) (b := true) (by decide +kernel) rfl rfl ?_
    cases h
    exact zret_i Hy.1 Hy.2.2 hE (by decide +kernel)
theorem m11_best_met {l : Launch} {G : zG} (hG : zGok G) (hcn : zgcn G = zcC) {x1 : Int32} {M : cM} {r : Int32} {M' : cM} (h : m11_best x1 M = some (r, M')) : zMet l G yX11_best cX11_best 2 (some .int) 5 117 [.inr (.inr (some (11, 0))), .inl x1] (zfC M) (some (.inl r)) (zfC M') :=
  zMet_of hG tbX11_ok rfl (by decide +kernel) (Nat.le_of_ble_eq_true rfl) (fun X _ Z hA hE => m11_best_ok ⟨Z, hcn, hA⟩ hE x1 M h)
