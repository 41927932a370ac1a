abbrev q0_spendHearing : ByteArray × Nat × String × zT := (cX0_spendHearing, 3, RX0, tbX0)
def m0_spendHearing_67 (k2 : Int32 → cM → Option cM) (x1 : Int32) (M : cM) : Option cM := k2 (x1 + (1 : Int32)) M
theorem m0_spendHearing_67_ok {X : zX} {G : zG} (Hy : zHy X G q0_spendHearing zcC 2 42 (none)) {M' : cM} (hE : zEnd X G (none) (zfC M')) {k2 : Int32 → cM → Option cM} (hk2 : ∀ (x1 : Int32) (M : cM), k2 x1 M = some M' → zGo (X, q0_spendHearing, G) 0 0 (2, [(0, .inr (.inr (some (0, 0)))), (1, .inl x1)], [], zfC M)) (x1 : Int32) (M : cM) (h : m0_spendHearing_67 k2 x1 M = some M') : zGo (X, q0_spendHearing, G) 0 0 (67, [(0, .inr (.inr (some (0, 0)))), (1, .inl x1)], [], zfC M) := by
  unfold m0_spendHearing_67 at h
  refine zblq Hy.1 Hy.2.1 [(.iinc 1 1, 3), (.ldc 2, 3)] (S' := (2, [(0, .inr (.inr (some (0, 0)))), (1, .inl (x1 + (1 : Int32)))], [], zfC M)) (b := true) (by decide +kernel) rfl rfl ?_
  refine zGo_keep [0, 1] rfl ?_
  exact hk2 (x1 + (1 : Int32)) M h
def m0_spendHearing_2 : Nat → Int32 → cM → Option cM
  | 0, _, _ => none
  | n + 1, x1, M => (if (cg M 3 0 4) ≤ x1 then some M else zbd (m3_of x1 M) (fun r1 M1 => zbd (m0_isIn ((cg M1 0 0 8) &&& ((cg M1 0 0 9) ^^^ (-1 : Int32))) x1 M1) (fun r2 M2 => (if r2 = 0 then m0_spendHearing_67 (m0_spendHearing_2 n) x1 M2 else zgd (Nat.blt r1 10 && true) ((if ((cg M2 2 r1 9) &&& (cg M2 0 0 9)) = 0 then m0_spendHearing_67 (m0_spendHearing_2 n) x1 M2 else zbd (m3_setting (3 : Int32) M2) (fun r4 M4 => zgd (Nat.blt r1 10) (zbv (m2_spend r1 r4 M4) (fun M5 => m0_spendHearing_67 (m0_spendHearing_2 n) x1 M5)))))))))
theorem m0_spendHearing_2_ok {X : zX} {G : zG} (Hy : zHy X G q0_spendHearing zcC 2 42 (none)) {M' : cM} (hE : zEnd X G (none) (zfC M')) : ∀ (n : Nat) (x1 : Int32) (M : cM), m0_spendHearing_2 n x1 M = some M' → zGo (X, q0_spendHearing, G) 0 0 (2, [(0, .inr (.inr (some (0, 0)))), (1, .inl x1)], [], zfC M) := by
  intro n
  induction n with
  | zero => intro x1 M h; cases h
  | succ n ih =>
    intro x1 M h
    unfold m0_spendHearing_2 at h
    refine zblq Hy.1 Hy.2.1 [(.iload 1, 1), (.aload 0, 1), (.getfield 0, 3), (.multianewarray 3 4, 3)] (S' := (10, [(0, .inr (.inr (some (0, 0)))), (1, .inl x1)], [.inl (cg M 3 0 4), .inl x1], zfC M)) (b := true) (by decide +kernel) rfl rfl ?_
    refine zic_ge Hy.1 (off := 63) (tgt := 73) (by decide +kernel) (by decide) (fun hb9 => ?_) (fun hb9 => ?_)
    · replace h := zite_t h hb9
      cases h
      exact zret_v Hy.1 Hy.2.2 hE (by decide +kernel)
    · replace h := zite_f h hb9
      refine zblq Hy.1 Hy.2.1 [(.aload 0, 1), (.getfield 0, 3), (.iload 1, 1)] (S' := (18, [(0, .inr (.inr (some (0, 0)))), (1, .inl x1)], [.inl x1, .inr (.inr (some (3, 0)))], zfC M)) (b := true) (by decide +kernel) rfl rfl ?_
      obtain ⟨r1, M1, hc1, h⟩ := zbd_inv h
      refine zcallV Hy.1 (as := [.inl x1]) (st := []) (m3_of_met (zOK_G Hy.1) Hy.2.1 hc1) cw0_52 m3_of_in m3_of_se (by decide) (zhlv Hy.2.1 rfl) rfl (zroom Hy.2.2 ⟨by decide, by decide⟩) rfl (by decide +kernel) ⟨Nat.zero_le _, Nat.zero_le _⟩ ?_
      refine zblq Hy.1 Hy.2.1 [(.astore 2, 1), (.aload 0, 1), (.multianewarray 0 8, 3), (.aload 0, 1), (.multianewarray 0 9, 3), (.iconst (-1), 1), (.ixor, 1), (.iand, 1), (.iload 1, 1)] (S' := (34, [(0, .inr (.inr (some (0, 0)))), (1, .inl x1), (2, .inr (.inr (some (2, r1))))], [.inl x1, .inl ((cg M1 0 0 8) &&& ((cg M1 0 0 9) ^^^ (-1 : Int32)))], zfC M1)) (b := true) (by decide +kernel) rfl rfl ?_
      obtain ⟨r2, M2, hc2, h⟩ := zbd_inv h
      refine zcallS Hy.1 (as := [.inl ((cg M1 0 0 8) &&& ((cg M1 0 0 9) ^^^ (-1 : Int32))), .inl x1]) (st := []) (m0_isIn_met (zOK_G Hy.1) Hy.2.1 hc2) cw0_87 m0_isIn_in rfl (zroom Hy.2.2 ⟨by decide, by decide⟩) rfl (by decide +kernel) ⟨Nat.zero_le _, Nat.zero_le _⟩ ?_
      refine zif_eq Hy.1 (off := 30) (tgt := 67) (by decide +kernel) (by decide) (fun hb8 => ?_) (fun hb8 => ?_)
      · replace h := zite_t h hb8
        refine zGo_keep [0, 1] rfl ?_
        exact m0_spendHearing_67_ok Hy hE ih x1 M2 h
      · replace h := zite_f h hb8
        obtain ⟨hg3, h⟩ := zgd_inv h
        refine zblq Hy.1 Hy.2.1 [(.aload 2, 1), (.multianewarray 2 9, 3), (.aload 0, 1), (.multianewarray 0 9, 3), (.iand, 1)] (S' := (49, [(0, .inr (.inr (some (0, 0)))), (1, .inl x1), (2, .inr (.inr (some (2, r1))))], [.inl ((cg M2 2 r1 9) &&& (cg M2 0 0 9))], zfC M2)) (b := Nat.blt r1 10 && true) (by decide +kernel) rfl hg3 ?_
        refine zif_ne Hy.1 (off := 6) (tgt := 55) (by decide +kernel) (by decide) (fun hb7 => ?_) (fun hb7 => ?_)
        · replace h := zite_f h hb7
          refine zblq Hy.1 Hy.2.1 [(.aload 2, 1), (.aload 0, 1), (.getfield 0, 3), (.iconst 3, 1)] (S' := (61, [(0, .inr (.inr (some (0, 0)))), (1, .inl x1), (2, .inr (.inr (some (2, r1))))], [.inl (3 : Int32), .inr (.inr (some (3, 0))), .inr (.inr (some (2, r1)))], zfC M2)) (b := true) (by decide +kernel) rfl rfl ?_
          obtain ⟨r4, M4, hc4, h⟩ := zbd_inv h
          refine zcallV Hy.1 (as := [.inl (3 : Int32)]) (st := [.inr (.inr (some (2, r1)))]) (m3_setting_met (zOK_G Hy.1) Hy.2.1 hc4) cw0_108 m3_setting_in m3_setting_se (by decide) (zhlv Hy.2.1 rfl) rfl (zroom Hy.2.2 ⟨by decide, by decide⟩) rfl (by decide +kernel) ⟨Nat.zero_le _, Nat.zero_le _⟩ ?_
          obtain ⟨hg6, h⟩ := zgd_inv h
          obtain ⟨M5, hc5, h⟩ := zbv_inv h
          refine zcallV Hy.1 (as := [.inl r4]) (st := []) (m2_spend_met (zOK_G Hy.1) Hy.2.1 hc5) cw0_112 m2_spend_in m2_spend_se (by decide) (zhlv Hy.2.1 hg6) rfl (zroom Hy.2.2 ⟨by decide, by decide⟩) rfl (by decide +kernel) ⟨Nat.zero_le _, Nat.zero_le _⟩ ?_
          refine zGo_keep [0, 1] rfl ?_
          exact m0_spendHearing_67_ok Hy hE ih x1 M5 h
        · replace h := zite_t h hb7
          refine zblq Hy.1 Hy.2.1 [(.ldc 67, 3)] (S' := (67, [(0, .inr (.inr (some (0, 0)))), (1, .inl x1), (2, .inr (.inr (some (2, r1))))], [], zfC M2)) (b := true) (by decide +kernel) rfl rfl ?_
          refine zGo_keep [0, 1] rfl ?_
          exact m0_spendHearing_67_ok Hy hE ih x1 M2 h
def m0_spendHearing  (M : cM) : Option cM := m0_spendHearing_2 zfu (0 : Int32) M
theorem m0_spendHearing_ok {X : zX} {G : zG} (Hy : zHy X G q0_spendHearing zcC 2 42 (none)) {M' : cM} (hE : zEnd X G (none) (zfC M'))  (M : cM) (h : m0_spendHearing M = some M') : zGo (X, q0_spendHearing, G) 0 0 (0, [(0, .inr (.inr (some (0, 0))))], [], zfC M) := by
  unfold m0_spendHearing at h
  refine zblq Hy.1 Hy.2.1 [(.iconst 0, 1), (.istore 1, 1)] (S' := (2, [(0, .inr (.inr (some (0, 0)))), (1, .inl (0 : Int32))], [], zfC M)) (b := true) (by decide +kernel) rfl rfl ?_
  refine zGo_keep [0, 1] rfl ?_
  exact m0_spendHearing_2_ok Hy hE zfu (0 : Int32) M h
theorem m0_spendHearing_met {l : Launch} {G : zG} (hG : zGok G) (hcn : zgcn G = zcC)  {M : cM} {M' : cM} (h : m0_spendHearing M = some M') : zMet l G yX0_spendHearing cX0_spendHearing 3 (none) 2 42 [.inr (.inr (some (0, 0)))] (zfC M) (none) (zfC M') :=
  zMet_of hG tbX0_ok rfl (by decide +kernel) (Nat.le_of_ble_eq_true rfl) (fun X _ Z hA hE => m0_spendHearing_ok ⟨Z, hcn, hA⟩ hE M h)
abbrev qJ6_bitCount : ByteArray × Nat × String × zT := (cJ6_bitCount_0f7a4, 1, RJ6, tbJ6)
def mJ6_bitCount (x0 : Int32) (M : cM) : Option (Int32 × cM) := some ((((((((x0 - ((zushr x0 (1 : Int32)) &&& (1431655765 : Int32))) &&& (858993459 : Int32)) + ((zushr (x0 - ((zushr x0 (1 : Int32)) &&& (1431655765 : Int32))) (2 : Int32)) &&& (858993459 : Int32))) + (zushr (((x0 - ((zushr x0 (1 : Int32)) &&& (1431655765 : Int32))) &&& (858993459 : Int32)) + ((zushr (x0 - ((zushr x0 (1 : Int32)) &&& (1431655765 : Int32))) (2 : Int32)) &&& (858993459 : Int32))) (4 : Int32))) &&& (252645135 : Int32)) + (zushr (((((x0 - ((zushr x0 (1 : Int32)) &&& (1431655765 : Int32))) &&& (858993459 : Int32)) + ((zushr (x0 - ((zushr x0 (1 : Int32)) &&& (1431655765 : Int32))) (2 : Int32)) &&& (858993459 : Int32))) + (zushr (((x0 - ((zushr x0 (1 : Int32)) &&& (1431655765 : Int32))) &&& (858993459 : Int32)) + ((zushr (x0 - ((zushr x0 (1 : Int32)) &&& (1431655765 : Int32))) (2 : Int32)) &&& (858993459 : Int32))) (4 : Int32))) &&& (252645135 : Int32)) (8 : Int32))) + (zushr ((((((x0 - ((zushr x0 (1 : Int32)) &&& (1431655765 : Int32))) &&& (858993459 : Int32)) + ((zushr (x0 - ((zushr x0 (1 : Int32)) &&& (1431655765 : Int32))) (2 : Int32)) &&& (858993459 : Int32))) + (zushr (((x0 - ((zushr x0 (1 : Int32)) &&& (1431655765 : Int32))) &&& (858993459 : Int32)) + ((zushr (x0 - ((zushr x0 (1 : Int32)) &&& (1431655765 : Int32))) (2 : Int32)) &&& (858993459 : Int32))) (4 : Int32))) &&& (252645135 : Int32)) + (zushr (((((x0 - ((zushr x0 (1 : Int32)) &&& (1431655765 : Int32))) &&& (858993459 : Int32)) + ((zushr (x0 - ((zushr x0 (1 : Int32)) &&& (1431655765 : Int32))) (2 : Int32)) &&& (858993459 : Int32))) + (zushr (((x0 - ((zushr x0 (1 : Int32)) &&& (1431655765 : Int32))) &&& (858993459 : Int32)) + ((zushr (x0 - ((zushr x0 (1 : Int32)) &&& (1431655765 : Int32))) (2 : Int32)) &&& (858993459 : Int32))) (4 : Int32))) &&& (252645135 : Int32)) (8 : Int32))) (16 : Int32))) &&& (63 : Int32), M)
theorem mJ6_bitCount_ok {X : zX} {G : zG} (Hy : zHy X G qJ6_bitCount zcC 0 0 (some .int)) {r : Int32} {M' : cM} (hE : zEnd X G (some (.inl r)) (zfC M')) (x0 : Int32) (M : cM) (h : mJ6_bitCount x0 M = some (r, M')) : zGo (X, qJ6_bitCount, G) 0 0 (0, [(0, .inl x0)], [], zfC M) := by
  unfold mJ6_bitCount at h
  refine zblq Hy.1 Hy.2.1 [(.iload 0, 1), (.iload 0, 1), (.iconst 1, 1), (.iushr, 1), (.iconst 1431655765, 3), (.iand, 1), (.isub, 1), (.istore 0, 1), (.iload 0, 1), (.iconst 858993459, 3), (.iand, 1), (.iload 0, 1), (.iconst 2, 1), (.iushr, 1), (.iconst 858993459, 3), (.iand, 1), (.iadd, 1), (.istore 0, 1), (.iload 0, 1), (.iload 0, 1), (.iconst 4, 1), (.iushr, 1), (.iadd, 1), (.iconst 252645135, 3), (.iand, 1), (.istore 0, 1), (.iload 0, 1), (.iload 0, 1), (.iconst 8, 2), (.iushr, 1), (.iadd, 1), (.istore 0, 1), (.iload 0, 1), (.iload 0, 1), (.iconst 16, 2), (.iushr, 1), (.iadd, 1), (.istore 0, 1), (.iload 0, 1), (.iconst 63, 2), (.iand, 1)] (S' := (52, [(0, .inl (((((((x0 - ((zushr x0 (1 : Int32)) &&& (1431655765 : Int32))) &&& (858993459 : Int32)) + ((zushr (x0 - ((zushr x0 (1 : Int32)) &&& (1431655765 : Int32))) (2 : Int32)) &&& (858993459 : Int32))) + (zushr (((x0 - ((zushr x0 (1 : Int32)) &&& (1431655765 : Int32))) &&& (858993459 : Int32)) + ((zushr (x0 - ((zushr x0 (1 : Int32)) &&& (1431655765 : Int32))) (2 : Int32)) &&& (858993459 : Int32))) (4 : Int32))) &&& (252645135 : Int32)) + (zushr (((((x0 - ((zushr x0 (1 : Int32)) &&& (1431655765 : Int32))) &&& (858993459 : Int32)) + ((zushr (x0 - ((zushr x0 (1 : Int32)) &&& (1431655765 : Int32))) (2 : Int32)) &&& (858993459 : Int32))) + (zushr (((x0 - ((zushr x0 (1 : Int32)) &&& (1431655765 : Int32))) &&& (858993459 : Int32)) + ((zushr (x0 - ((zushr x0 (1 : Int32)) &&& (1431655765 : Int32))) (2 : Int32)) &&& (858993459 : Int32))) (4 : Int32))) &&& (252645135 : Int32)) (8 : Int32))) + (zushr ((((((x0 - ((zushr x0 (1 : Int32)) &&& (1431655765 : Int32))) &&& (858993459 : Int32)) + ((zushr (x0 - ((zushr x0 (1 : Int32)) &&& (1431655765 : Int32))) (2 : Int32)) &&& (858993459 : Int32))) + (zushr (((x0 - ((zushr x0 (1 : Int32)) &&& (1431655765 : Int32))) &&& (858993459 : Int32)) + ((zushr (x0 - ((zushr x0 (1 : Int32)) &&& (1431655765 : Int32))) (2 : Int32)) &&& (858993459 : Int32))) (4 : Int32))) &&& (252645135 : Int32)) + (zushr (((((x0 - ((zushr x0 (1 : Int32)) &&& (1431655765 : Int32))) &&& (858993459 : Int32)) + ((zushr (x0 - ((zushr x0 (1 : Int32)) &&& (1431655765 : Int32))) (2 : Int32)) &&& (858993459 : Int32))) + (zushr (((x0 - ((zushr x0 (1 : Int32)) &&& (1431655765 : Int32))) &&& (858993459 : Int32)) + ((zushr (x0 - ((zushr x0 (1 : Int32)) &&& (1431655765 : Int32))) (2 : Int32)) &&& (858993459 : Int32))) (4 : Int32))) &&& (252645135 : Int32)) (8 : Int32))) (16 : Int32))))], [.inl ((((((((x0 - ((zushr x0 (1 : Int32)) &&& (1431655765 : Int32))) &&& (858993459 : Int32)) + ((zushr (x0 - ((zushr x0 (1 : Int32)) &&& (1431655765 : Int32))) (2 : Int32)) &&& (858993459 : Int32))) + (zushr (((x0 - ((zushr x0 (1 : Int32)) &&& (1431655765 : Int32))) &&& (858993459 : Int32)) + ((zushr (x0 - ((zushr x0 (1 : Int32)) &&& (1431655765 : Int32))) (2 : Int32)) &&& (858993459 : Int32))) (4 : Int32))) &&& (252645135 : Int32)) + (zushr (((((x0 - ((zushr x0 (1 : Int32)) &&& (1431655765 : Int32))) &&& (858993459 : Int32)) + ((zushr (x0 - ((zushr x0 (1 : Int32)) &&& (1431655765 : Int32))) (2 : Int32)) &&& (858993459 : Int32))) + (zushr (((x0 - ((zushr x0 (1 : Int32)) &&& (1431655765 : Int32))) &&& (858993459 : Int32)) + ((zushr (x0 - ((zushr x0 (1 : Int32)) &&& (1431655765 : Int32))) (2 : Int32)) &&& (858993459 : Int32))) (4 : Int32))) &&& (252645135 : Int32)) (8 : Int32))) + (zushr ((((((x0 - ((zushr x0 (1 : Int32)) &&& (1431655765 : Int32))) &&& (858993459 : Int32)) + ((zushr (x0 - ((zushr x0 (1 : Int32)) &&& (1431655765 : Int32))) (2 : Int32)) &&& (858993459 : Int32))) + (zushr (((x0 - ((zushr x0 (1 : Int32)) &&& (1431655765 : Int32))) &&& (858993459 : Int32)) + ((zushr (x0 - ((zushr x0 (1 : Int32)) &&& (1431655765 : Int32))) (2 : Int32)) &&& (858993459 : Int32))) (4 : Int32))) &&& (252645135 : Int32)) + (zushr (((((x0 - ((zushr x0 (1 : Int32)) &&& (1431655765 : Int32))) &&& (858993459 : Int32)) + ((zushr (x0 - ((zushr x0 (1 : Int32)) &&& (1431655765 : Int32))) (2 : Int32)) &&& (858993459 : Int32))) + (zushr (((x0 - ((zushr x0 (1 : Int32)) &&& (1431655765 : Int32))) &&& (858993459 : Int32)) + ((zushr (x0 - ((zushr x0 (1 : Int32)) &&& (1431655765 : Int32))) (2 : Int32)) &&& (858993459 : Int32))) (4 : Int32))) &&& (252645135 : Int32)) (8 : Int32))) (16 : Int32))) &&& (63 : Int32))], zfC M)) (b := true) (by decide +kernel) rfl rfl ?_
  cases h
  exact zret_i Hy.1 Hy.2.2 hE (by decide +kernel)
theorem mJ6_bitCount_met {l : Launch} {G : zG} (hG : zGok G) (hcn : zgcn G = zcC) {x0 : Int32} {M : cM} {r : Int32} {M' : cM} (h : mJ6_bitCount x0 M = some (r, M')) : zMet l G yJ6_bitCount_0f7a4 cJ6_bitCount_0f7a4 1 (some .int) 0 0 [.inl x0] (zfC M) (some (.inl r)) (zfC M') :=
  zMet_ofF hG tbJ6_ok rfl (by decide +kernel) (Nat.le_of_ble_eq_true rfl) (fun X _ Z hA hE => mJ6_bitCount_ok ⟨Z, hcn, hA⟩ hE x0 M h)
abbrev q0_whyLost : ByteArray × Nat × String × zT := (cX0_whyLost, 3, RX0, tbX0)
def m0_whyLost (i1 : Nat) (x2 : Int32) (M : cM) : Option (Int32 × cM) := zgd (Nat.blt i1 10 && true) (zbd (m0_isIn (cg M 0 0 7) (cg M 2 i1 0) M) (fun r2 M2 => (if r2 = 0 then some ((0 : Int32), M2) else zgd (Nat.blt i1 10) (zbd (m2_hearsBox i1 x2 M2) (fun r3 M3 => (if r3 = 0 then some ((1 : Int32), M3) else zgd (Nat.blt i1 10 && true) (zbd (m0_isIn (cg M3 0 0 8) (cg M3 2 i1 0) M3) (fun r6 M6 => (if r6 = 0 then some ((2 : Int32), M6) else zgd (Nat.blt i1 10 && true) (zbd (m0_isIn (cg M6 0 0 9) (cg M6 2 i1 0) M6) (fun r8 M8 => (if r8 = 0 then zgd (Nat.blt i1 10 && true) (zbd (mJ6_bitCount ((cg M8 2 i1 9) &&& (cg M8 0 0 9)) M8) (fun r10 M10 => (if r10 ≤ (1 : Int32) then some ((-1 : Int32), M10) else some ((3 : Int32), M10)))) else some ((3 : Int32), M8)))))))))))))
theorem m0_whyLost_ok {X : zX} {G : zG} (Hy : zHy X G q0_whyLost zcC 1 21 (some .int)) {r : Int32} {M' : cM} (hE : zEnd X G (some (.inl r)) (zfC M')) (i1 : Nat) (x2 : Int32) (M : cM) (h : m0_whyLost i1 x2 M = some (r, M')) : zGo (X, q0_whyLost, G) 0 0 (0, [(0, .inr (.inr (some (0, 0)))), (1, .inr (.inr (some (2, i1)))), (2, .inl x2)], [], zfC M) := by
  unfold m0_whyLost at h
  obtain ⟨hg1, h⟩ := zgd_inv h
  refine zblq Hy.1 Hy.2.1 [(.aload 0, 1), (.multianewarray 0 7, 3), (.aload 1, 1), (.multianewarray 2 0, 3)] (S' := (8, [(0, .inr (.inr (some (0, 0)))), (1, .inr (.inr (some (2, i1)))), (2, .inl x2)], [.inl (cg M 2 i1 0), .inl (cg M 0 0 7)], zfC M)) (b := Nat.blt i1 10 && true) (by decide +kernel) rfl hg1 ?_
  obtain ⟨r2, M2, hc2, h⟩ := zbd_inv h
  refine zcallS Hy.1 (as := [.inl (cg M 0 0 7), .inl (cg M 2 i1 0)]) (st := []) (m0_isIn_met (zOK_G Hy.1) Hy.2.1 hc2) cw0_87 m0_isIn_in rfl (zroom Hy.2.2 ⟨by decide, by decide⟩) rfl (by decide +kernel) ⟨Nat.zero_le _, Nat.zero_le _⟩ ?_
  refine zif_ne Hy.1 (off := 5) (tgt := 16) (by decide +kernel) (by decide) (fun hb15 => ?_) (fun hb15 => ?_)
  · replace h := zite_f h hb15
    refine zblq Hy.1 Hy.2.1 [(.aload 1, 1), (.iload 2, 1)] (S' := (18, [(0, .inr (.inr (some (0, 0)))), (1, .inr (.inr (some (2, i1)))), (2, .inl x2)], [.inl x2, .inr (.inr (some (2, i1)))], zfC M2)) (b := true) (by decide +kernel) rfl rfl ?_
    obtain ⟨hg4, h⟩ := zgd_inv h
    obtain ⟨r3, M3, hc3, h⟩ := zbd_inv h
    refine zcallV Hy.1 (as := [.inl x2]) (st := []) (m2_hearsBox_met (zOK_G Hy.1) Hy.2.1 hc3) cw0_187 m2_hearsBox_in m2_hearsBox_se (by decide) (zhlv Hy.2.1 hg4) rfl (zroom Hy.2.2 ⟨by decide, by decide⟩) rfl (by decide +kernel) ⟨Nat.zero_le _, Nat.zero_le _⟩ ?_
    refine zif_ne Hy.1 (off := 5) (tgt := 26) (by decide +kernel) (by decide) (fun hb14 => ?_) (fun hb14 => ?_)
    · replace h := zite_f h hb14
      obtain ⟨hg5, h⟩ := zgd_inv h
      refine zblq Hy.1 Hy.2.1 [(.aload 0, 1), (.multianewarray 0 8, 3), (.aload 1, 1), (.multianewarray 2 0, 3)] (S' := (34, [(0, .inr (.inr (some (0, 0)))), (1, .inr (.inr (some (2, i1)))), (2, .inl x2)], [.inl (cg M3 2 i1 0), .inl (cg M3 0 0 8)], zfC M3)) (b := Nat.blt i1 10 && true) (by decide +kernel) rfl hg5 ?_
      obtain ⟨r6, M6, hc6, h⟩ := zbd_inv h
      refine zcallS Hy.1 (as := [.inl (cg M3 0 0 8), .inl (cg M3 2 i1 0)]) (st := []) (m0_isIn_met (zOK_G Hy.1) Hy.2.1 hc6) cw0_87 m0_isIn_in rfl (zroom Hy.2.2 ⟨by decide, by decide⟩) rfl (by decide +kernel) ⟨Nat.zero_le _, Nat.zero_le _⟩ ?_
      refine zif_ne Hy.1 (off := 5) (tgt := 42) (by decide +kernel) (by decide) (fun hb13 => ?_) (fun hb13 => ?_)
      · replace h := zite_f h hb13
        obtain ⟨hg7, h⟩ := zgd_inv h
        refine zblq Hy.1 Hy.2.1 [(.aload 0, 1), (.multianewarray 0 9, 3), (.aload 1, 1), (.multianewarray 2 0, 3)] (S' := (50, [(0, .inr (.inr (some (0, 0)))), (1, .inr (.inr (some (2, i1)))), (2, .inl x2)], [.inl (cg M6 2 i1 0), .inl (cg M6 0 0 9)], zfC M6)) (b := Nat.blt i1 10 && true) (by decide +kernel) rfl hg7 ?_
        obtain ⟨r8, M8, hc8, h⟩ := zbd_inv h
        refine zcallS Hy.1 (as := [.inl (cg M6 0 0 9), .inl (cg M6 2 i1 0)]) (st := []) (m0_isIn_met (zOK_G Hy.1) Hy.2.1 hc8) cw0_87 m0_isIn_in rfl (zroom Hy.2.2 ⟨by decide, by decide⟩) rfl (by decide +kernel) ⟨Nat.zero_le _, Nat.zero_le _⟩ ?_
        refine zif_eq Hy.1 (off := 5) (tgt := 58) (by decide +kernel) (by decide) (fun hb12 => ?_) (fun hb12 => ?_)
        · replace h := zite_t h hb12
          obtain ⟨hg9, h⟩ := zgd_inv h
          refine zblq Hy.1 Hy.2.1 [(.aload 1, 1), (.multianewarray 2 9, 3), (.aload 0, 1), (.multianewarray 0 9, 3), (.iand, 1)] (S' := (67, [(0, .inr (.inr (some (0, 0)))), (1, .inr (.inr (some (2, i1)))), (2, .inl x2)], [.inl ((cg M8 2 i1 9) &&& (cg M8 0 0 9))], zfC M8)) (b := Nat.blt i1 10 && true) (by decide +kernel) rfl hg9 ?_
          obtain ⟨r10, M10, hc10, h⟩ := zbd_inv h
          refine zcallS Hy.1 (as := [.inl ((cg M8 2 i1 9) &&& (cg M8 0 0 9))]) (st := []) (mJ6_bitCount_met (zOK_G Hy.1) Hy.2.1 hc10) cw0_190 mJ6_bitCount_in rfl (zroom Hy.2.2 ⟨by decide, by decide⟩) rfl (by decide +kernel) ⟨Nat.zero_le _, Nat.zero_le _⟩ ?_
          refine zblq Hy.1 Hy.2.1 [(.iconst 1, 1)] (S' := (71, [(0, .inr (.inr (some (0, 0)))), (1, .inr (.inr (some (2, i1)))), (2, .inl x2)], [.inl (1 : Int32), .inl r10], zfC M10)) (b := true) (by decide +kernel) rfl rfl ?_
          refine zic_le Hy.1 (off := 7) (tgt := 78) (by decide +kernel) (by decide) (fun hb11 => ?_) (fun hb11 => ?_)
          · replace h := zite_t h hb11
            refine zblq Hy.1 Hy.2.1 [(.iconst (-1), 1)] (S' := (79, [(0, .inr (.inr (some (0, 0)))), (1, .inr (.inr (some (2, i1)))), (2, .inl x2)], [.inl (-1 : Int32)], zfC M10)) (b := true) (by decide +kernel) rfl rfl ?_
            cases h
            exact zret_i Hy.1 Hy.2.2 hE (by decide +kernel)
          · replace h := zite_f h hb11
            refine zblq Hy.1 Hy.2.1 [(.iconst 3, 1), (.ldc 79, 3)] (S' := (79, [(0, .inr (.inr (some (0, 0)))), (1, .inr (.inr (some (2, i1)))), (2, .inl x2)], [.inl (3 : Int32)], zfC M10)) (b := true) (by decide +kernel) rfl rfl ?_
            cases h
            exact zret_i Hy.1 Hy.2.2 hE (by decide +kernel)
        · replace h := zite_f h hb12
          refine zblq Hy.1 Hy.2.1 [(.iconst 3, 1)] (S' := (57, [(0, .inr (.inr (some (0, 0)))), (1, .inr (.inr (some (2, i1)))), (2, .inl x2)], [.inl (3 : Int32)], zfC M8)) (b := true) (by decide +kernel) rfl rfl ?_
          cases h
          exact zret_i Hy.1 Hy.2.2 hE (by decide +kernel)
      · replace h := zite_t h hb13
        refine zblq Hy.1 Hy.2.1 [(.iconst 2, 1)] (S' := (41, [(0, .inr (.inr (some (0, 0)))), (1, .inr (.inr (some (2, i1)))), (2, .inl x2)], [.inl (2 : Int32)], zfC M6)) (b := true) (by decide +kernel) rfl rfl ?_
        cases h
        exact zret_i Hy.1 Hy.2.2 hE (by decide +kernel)
    · replace h := zite_t h hb14
      refine zblq Hy.1 Hy.2.1 [(.iconst 1, 1)] (S' := (25, [(0, .inr (.inr (some (0, 0)))), (1, .inr (.inr (some (2, i1)))), (2, .inl x2)], [.inl (1 : Int32)], zfC M3)) (b := true) (by decide +kernel) rfl rfl ?_
      cases h
      exact zret_i Hy.1 Hy.2.2 hE (by decide +kernel)
  · replace h := zite_t h hb15
    refine zblq Hy.1 Hy.2.1 [(.iconst 0, 1)] (S' := (15, [(0, .inr (.inr (some (0, 0)))), (1, .inr (.inr (some (2, i1)))), (2, .inl x2)], [.inl (0 : Int32)], zfC M2)) (b := true) (by decide +kernel) rfl rfl ?_
    cases h
    exact zret_i Hy.1 Hy.2.2 hE (by decide +kernel)
theorem m0_whyLost_met {l : Launch} {G : zG} (hG : zGok G) (hcn : zgcn G = zcC) {i1 : Nat} {x2 : Int32} {M : cM} {r : Int32} {M' : cM} (h : m0_whyLost i1 x2 M = some (r, M')) : zMet l G yX0_whyLost cX0_whyLost 3 (some .int) 1 21 [.inr (.inr (some (0, 0))), .inr (.inr (some (2, i1))), .inl x2] (zfC M) (some (.inl r)) (zfC M') :=
  zMet_of hG tbX0_ok rfl (by decide +kernel) (Nat.le_of_ble_eq_true rfl) (fun X _ Z hA hE => m0_whyLost_ok ⟨Z, hcn, hA⟩ hE i1 x2 M h)
abbrev q8_drop : ByteArray × Nat × String × zT := (cX8_drop, 4, RX8, tbX8)
def m8_drop_30 : Nat → Nat → Nat → Int32 → cM → Option cM
  | 0, _, _, _, _ => none
  | n + 1, i0, i2, x3, M => zgd (Nat.blt i0 10 && true) ((if (cg M 8 i0 2) ≤ (x3 + (1 : Int32)) then zgd (Nat.blt i0 10 && ((Nat.blt i0 10 && true) && (Nat.blt i0 10 && (Nat.blt i0 10 && true)))) (zgd (Nat.blt i0 10 && (zin (cg (cs M 8 i0 2 ((cg M 8 i0 2) - (1 : Int32))) 8 i0 2) 4 && Nat.blt i2 51)) (some (cps (cs M 8 i0 2 ((cg M 8 i0 2) - (1 : Int32))) 901 i0 (nx (cg (cs M 8 i0 2 ((cg M 8 i0 2) - (1 : Int32))) 8 i0 2)) i2))) else zgd (Nat.blt i0 10 && (Nat.blt i0 10 && ((Nat.blt i0 10 && zin (x3 + (1 : Int32)) 4) && ((Nat.blt i0 10 && zin x3 4) && (Nat.blt i0 10 && (Nat.blt i0 10 && ((Nat.blt i0 10 && zin (x3 + (1 : Int32)) 4) && true))))))) (zgd (Nat.blt i0 10 && (zin x3 4 && Nat.blt (cp (cs M 900 i0 (nx x3) (cg M 900 i0 (nx (x3 + (1 : Int32))))) 901 i0 (nx (x3 + (1 : Int32)))) 51)) ((m8_drop_30 n) i0 i2 (x3 + (1 : Int32)) (cps (cs M 900 i0 (nx x3) (cg M 900 i0 (nx (x3 + (1 : Int32))))) 901 i0 (nx x3) (cp (cs M 900 i0 (nx x3) (cg M 900 i0 (nx (x3 + (1 : Int32))))) 901 i0 (nx (x3 + (1 : Int32)))))))))
theorem m8_drop_30_ok {X : zX} {G : zG} (Hy : zHy X G q8_drop zcC 0 0 (none)) {M' : cM} (hE : zEnd X G (none) (zfC M')) : ∀ (n : Nat) (i0 : Nat) (i2 : Nat) (x3 : Int32) (M : cM), m8_drop_30 n i0 i2 x3 M = some M' → zGo (X, q8_drop, G) 0 0 (30, [(0, .inr (.inr (some (8, i0)))), (2, .inr (.inr (some (9, i2)))), (3, .inl x3)], [], zfC M) := by
  intro n
  induction n with
  | zero => intro i0 i2 x3 M h; cases h
  | succ n ih =>
    intro i0 i2 x3 M h
    unfold m8_drop_30 at h
    obtain ⟨hg4, h⟩ := zgd_inv h
    refine zblq Hy.1 Hy.2.1 [(.iload 3, 1), (.iconst 1, 1), (.iadd, 1), (.aload 0, 1), (.multianewarray 8 2, 3)] (S' := (37, [(0, .inr (.inr (some (8, i0)))), (2, .inr (.inr (some (9, i2)))), (3, .inl x3)], [.inl (cg M 8 i0 2), .inl (x3 + (1 : Int32))], zfC M)) (b := Nat.blt i0 10 && true) (by decide +kernel) rfl hg4 ?_
    refine zic_ge Hy.1 (off := 37) (tgt := 74) (by decide +kernel) (by decide) (fun hb9 => ?_) (fun hb9 => ?_)
    · replace h := zite_t h hb9
      obtain ⟨hg5, h⟩ := zgd_inv h
      refine zblq Hy.1 Hy.2.1 [(.aload 0, 1), (.dup, 1), (.multianewarray 8 2, 3), (.iconst 1, 1), (.isub, 1), (.invokeinterface 8 2, 3), (.aload 0, 1), (.getfield 801, 3), (.aload 0, 1), (.multianewarray 8 2, 3), (.aload 2, 1)] (S' := (93, [(0, .inr (.inr (some (8, i0)))), (2, .inr (.inr (some (9, i2)))), (3, .inl x3)], [.inr (.inr (some (9, i2))), .inl (cg (cs M 8 i0 2 ((cg M 8 i0 2) - (1 : Int32))) 8 i0 2), .inr (.inr (some (901, i0)))], zfC (cs M 8 i0 2 ((cg M 8 i0 2) - (1 : Int32))))) (b := Nat.blt i0 10 && ((Nat.blt i0 10 && true) && (Nat.blt i0 10 && (Nat.blt i0 10 && true)))) (by decide +kernel) rfl hg5 ?_
      obtain ⟨hg6, h⟩ := zgd_inv h
      refine z_aast Hy.1 Hy.2.1 (by decide +kernel) hg6 ?_
      cases h
      exact zret_v Hy.1 Hy.2.2 hE (by decide +kernel)
    · replace h := zite_f h hb9
      obtain ⟨hg7, h⟩ := zgd_inv h
      refine zblq Hy.1 Hy.2.1 [(.aload 0, 1), (.getfield 800, 3), (.iload 3, 1), (.aload 0, 1), (.getfield 800, 3), (.iload 3, 1), (.iconst 1, 1), (.iadd, 1), (.iaload, 1), (.iastore, 1), (.aload 0, 1), (.getfield 801, 3), (.iload 3, 1), (.aload 0, 1), (.getfield 801, 3), (.iload 3, 1), (.iconst 1, 1), (.iadd, 1), (.aaload, 1)] (S' := (67, [(0, .inr (.inr (some (8, i0)))), (2, .inr (.inr (some (9, i2)))), (3, .inl x3)], [.inr (.inr (some (9, (cp (cs M 900 i0 (nx x3) (cg M 900 i0 (nx (x3 + (1 : Int32))))) 901 i0 (nx (x3 + (1 : Int32))))))), .inl x3, .inr (.inr (some (901, i0)))], zfC (cs M 900 i0 (nx x3) (cg M 900 i0 (nx (x3 + (1 : Int32))))))) (b := Nat.blt i0 10 && (Nat.blt i0 10 && ((Nat.blt i0 10 && zin (x3 + (1 : Int32)) 4) && ((Nat.blt i0 10 && zin x3 4) && (Nat.blt i0 10 && (Nat.blt i0 10 && ((Nat.blt i0 10 && zin (x3 + (1 : Int32)) 4) && true))))))) (by decide +kernel) rfl hg7 ?_
      obtain ⟨hg8, h⟩ := zgd_inv h
      refine z_aast Hy.1 Hy.2.1 (by decide +kernel) hg8 ?_
      refine zblq Hy.1 Hy.2.1 [(.iinc 3 1, 3), (.ldc 30, 3)] (S' := (30, [(0, .inr (.inr (some (8, i0)))), (2, .inr (.inr (some (9, i2)))), (3, .inl (x3 + (1 : Int32)))], [], zfC (cps (cs M 900 i0 (nx x3) (cg M 900 i0 (nx (x3 + (1 : Int32))))) 901 i0 (nx x3) (cp (cs M 900 i0 (nx x3) (cg M 900 i0 (nx (x3 + (1 : Int32))))) 901 i0 (nx (x3 + (1 : Int32))))))) (b := true) (by decide +kernel) rfl rfl ?_
      refine zGo_keep [0, 2, 3] rfl ?_
      exact ih i0 i2 (x3 + (1 : Int32)) (cps (cs M 900 i0 (nx x3) (cg M 900 i0 (nx (x3 + (1 : Int32))))) 901 i0 (nx x3) (cp (cs M 900 i0 (nx x3) (cg M 900 i0 (nx (x3 + (1 : Int32))))) 901 i0 (nx (x3 + (1 : Int32))))) h
def m8_drop (i0 : Nat) (x1 : Int32) (M : cM) : Option cM := (if x1 < 0 then some M else zgd (Nat.blt i0 10 && true) ((if (cg M 8 i0 2) ≤ x1 then some M else zgd (Nat.blt i0 10 && true) ((if (cg M 8 i0 2) ≤ (4 : Int32) then zgd (Nat.blt i0 10 && ((Nat.blt i0 10 && zin x1 4) && true)) (m8_drop_30 zfu i0 (cp M 901 i0 (nx x1)) x1 M) else some M)))))
theorem m8_drop_ok {X : zX} {G : zG} (Hy : zHy X G q8_drop zcC 0 0 (none)) {M' : cM} (hE : zEnd X G (none) (zfC M')) (i0 : Nat) (x1 : Int32) (M : cM) (h : m8_drop i0 x1 M = some M') : zGo (X, q8_drop, G) 0 0 (0, [(0, .inr (.inr (some (8, i0)))), (1, .inl x1)], [], zfC M) := by
  unfold m8_drop at h
  refine zblq Hy.1 Hy.2.1 [(.iload 1, 1)] (S' := (1, [(0, .inr (.inr (some (8, i0)))), (1, .inl x1)], [.inl x1], zfC M)) (b := true) (by decide +kernel) rfl rfl ?_
  refine zif_lt Hy.1 (off := 19) (tgt := 20) (by decide +kernel) (by decide) (fun hb12 => ?_) (fun hb12 => ?_)
  · replace h := zite_t h hb12
    cases h
    exact zret_v Hy.1 Hy.2.2 hE (by decide +kernel)
  · replace h := zite_f h hb12
    obtain ⟨hg1, h⟩ := zgd_inv h
    refine zblq Hy.1 Hy.2.1 [(.iload 1, 1), (.aload 0, 1), (.multianewarray 8 2, 3)] (S' := (9, [(0, .inr (.inr (some (8, i0)))), (1, .inl x1)], [.inl (cg M 8 i0 2), .inl x1], zfC M)) (b := Nat.blt i0 10 && true) (by decide +kernel) rfl hg1 ?_
    refine zic_ge Hy.1 (off := 11) (tgt := 20) (by decide +kernel) (by decide) (fun hb11 => ?_) (fun hb11 => ?_)
    · replace h := zite_t h hb11
      cases h
      exact zret_v Hy.1 Hy.2.2 hE (by decide +kernel)
    · replace h := zite_f h hb11
      obtain ⟨hg2, h⟩ := zgd_inv h
      refine zblq Hy.1 Hy.2.1 [(.aload 0, 1), (.multianewarray 8 2, 3), (.iconst 4, 1)] (S' := (17, [(0, .inr (.inr (some (8, i0)))), (1, .inl x1)], [.inl (4 : Int32), .inl (cg M 8 i0 2)], zfC M)) (b := Nat.blt i0 10 && true) (by decide +kernel) rfl hg2 ?_
      refine zic_le Hy.1 (off := 4) (tgt := 21) (by decide +kernel) (by decide) (fun hb10 => ?_) (fun hb10 => ?_)
      · replace h := zite_t h hb10
        obtain ⟨hg3, h⟩ := zgd_inv h
        refine zblq Hy.1 Hy.2.1 [(.aload 0, 1), (.getfield 801, 3), (.iload 1, 1), (.aaload, 1), (.astore 2, 1), (.iload 1, 1), (.istore 3, 1)] (S' := (30, [(0, .inr (.inr (some (8, i0)))), (1, .inl x1), (2, .inr (.inr (some (9, (cp M 901 i0 (nx x1)))))), (3, .inl x1)], [], zfC M)) (b := Nat.blt i0 10 && ((Nat.blt i0 10 && zin x1 4) && true)) (by decide +kernel) rfl hg3 ?_
        refine zGo_keep [0, 2, 3] rfl ?_
        exact m8_drop_30_ok Hy hE zfu i0 (cp M 901 i0 (nx x1)) x1 M h
      · replace h := zite_f h hb10
        cases h
        exact zret_v Hy.1 Hy.2.2 hE (by decide +kernel)
theorem m8_drop_met {l : Launch} {G : zG} (hG : zGok G) (hcn : zgcn G = zcC) {i0 : Nat} {x1 : Int32} {M : cM} {M' : cM} (h : m8_drop i0 x1 M = some M') : zMet l G yX8_drop cX8_drop 4 (none) 0 0 [.inr (.inr (some (8, i0))), .inl x1] (zfC M) (none) (zfC M') :=
  zMet_of hG tbX8_ok rfl (by decide +kernel) (Nat.le_of_ble_eq_true rfl) (fun X _ Z hA hE => m8_drop_ok ⟨Z, hcn, hA⟩ hE i0 x1 M h)
abbrev q8_firstIsSum : ByteArray × Nat × String × zT := (cX8_firstIsSum, 1, RX8, tbX8)
def m8_firstIsSum (i0 : Nat) (M : cM) : Option (Int32 × cM) := zgd (Nat.blt i0 10 && true) ((if (cg M 8 i0 2) ≤ 0 then some ((0 : Int32), M) else zgd (Nat.blt i0 10 && ((Nat.blt i0 10 && zin (0 : Int32) 4) && true)) ((if (cg M 900 i0 (nx (0 : Int32))) = (-1 : Int32) then some ((1 : Int32), M) else some ((0 : Int32), M)))))
theorem m8_firstIsSum_ok {X : zX} {G : zG} (Hy : zHy X G q8_firstIsSum zcC 0 0 (some .boolean)) {r : Int32} {M' : cM} (hE : zEnd X G (some (.inl r)) (zfC M')) (i0 : Nat) (M : cM) (h : m8_firstIsSum i0 M = some (r, M')) : zGo (X, q8_firstIsSum, G) 0 0 (0, [(0, .inr (.inr (some (8, i0))))], [], zfC M) := by
  unfold m8_firstIsSum at h
  obtain ⟨hg1, h⟩ := zgd_inv h
  refine zblq Hy.1 Hy.2.1 [(.aload 0, 1), (.multianewarray 8 2, 3)] (S' := (4, [(0, .inr (.inr (some (8, i0))))], [.inl (cg M 8 i0 2)], zfC M)) (b := Nat.blt i0 10 && true) (by decide +kernel) rfl hg1 ?_
  refine zif_le Hy.1 (off := 17) (tgt := 21) (by decide +kernel) (by decide) (fun hb4 => ?_) (fun hb4 => ?_)
  · replace h := zite_t h hb4
    refine zblq Hy.1 Hy.2.1 [(.iconst 0, 1)] (S' := (22, [(0, .inr (.inr (some (8, i0))))], [.inl (0 : Int32)], zfC M)) (b := true) (by decide +kernel) rfl rfl ?_
    cases h
    exact zret_z Hy.1 Hy.2.2 (by decide) hE (by decide +kernel)
  · replace h := zite_f h hb4
    obtain ⟨hg2, h⟩ := zgd_inv h
    refine zblq Hy.1 Hy.2.1 [(.aload 0, 1), (.getfield 800, 3), (.iconst 0, 1), (.iaload, 1), (.iconst (-1), 1)] (S' := (14, [(0, .inr (.inr (some (8, i0))))], [.inl (-1 : Int32), .inl (cg M 900 i0 (nx (0 : Int32)))], zfC M)) (b := Nat.blt i0 10 && ((Nat.blt i0 10 && zin (0 : Int32) 4) && true)) (by decide +kernel) rfl hg2 ?_
    refine zic_ne Hy.1 (off := 7) (tgt := 21) (by decide +kernel) (by decide) (fun hb3 => ?_) (fun hb3 => ?_)
    · replace h := zite_f h hb3
      refine zblq Hy.1 Hy.2.1 [(.iconst 0, 1)] (S' := (22, [(0, .inr (.inr (some (8, i0))))], [.inl (0 : Int32)], zfC M)) (b := true) (by decide +kernel) rfl rfl ?_
      cases h
      exact zret_z Hy.1 Hy.2.2 (by decide) hE (by decide +kernel)
    · replace h := zite_t h hb3
      refine zblq Hy.1 Hy.2.1 [(.iconst 1, 1), (.ldc 22, 3)] (S' := (22, [(0, .inr (.inr (some (8, i0))))], [.inl (1 : Int32)], zfC M)) (b := true) (by decide +kernel) rfl rfl ?_
      cases h
      exact zret_z Hy.1 Hy.2.2 (by decide) hE (by decide +kernel)
theorem m8_firstIsSum_met {l : Launch} {G : zG} (hG : zGok G) (hcn : zgcn G = zcC) {i0 : Nat} {M : cM} {r : Int32} {M' : cM} (h : m8_firstIsSum i0 M = some (r, M')) : zMet l G yX8_firstIsSum cX8_firstIsSum 1 (some .boolean) 0 0 [.inr (.inr (some (8, i0)))] (zfC M) (some (.inl r)) (zfC M') :=
  zMet_of hG tbX8_ok rfl (by decide +kernel) (Nat.le_of_ble_eq_true rfl) (fun X _ Z hA hE => m8_firstIsSum_ok ⟨Z, hcn, hA⟩ hE i0 M h)
abbrev q8_firstWord : ByteArray × Nat × String × zT := (cX8_firstWord, 1, RX8, tbX8)
def m8_firstWord (i0 : Nat) (M : cM) : Option (Int32 × cM) := zgd (Nat.blt i0 10 && ((Nat.blt i0 10 && zin (0 : Int32) 4) && true)) (some (cg M 900 i0 (nx (0 : Int32)), M))
theorem m8_firstWord_ok {X : zX} {G : zG} (Hy : zHy X G q8_firstWord zcC 0 0 (some .int)) {r : Int32} {M' : cM} (hE : zEnd X G (some (.inl r)) (zfC M')) (i0 : Nat) (M : cM) (h : m8_firstWord i0 M = some (r, M')) : zGo (X, q8_firstWord, G) 0 0 (0, [(0, .inr (.inr (some (8, i0))))], [], zfC M) := by
  unfold m8_firstWord at h
  obtain ⟨hg1, h⟩ := zgd_inv h
  refine zblq Hy.1 Hy.2.1 [(.aload 0, 1), (.getfield 800, 3), (.iconst 0, 1), (.iaload, 1)] (S' := (6, [(0, .inr (.inr (some (8, i0))))], [.inl (cg M 900 i0 (nx (0 : Int32)))], zfC M)) (b := Nat.blt i0 10 && ((Nat.blt i0 10 && zin (0 : Int32) 4) && true)) (by decide +kernel) rfl hg1 ?_
  cases h
  exact zret_i Hy.1 Hy.2.2 hE (by decide +kernel)
theorem m8_firstWord_met {l : Launch} {G : zG} (hG : zGok G) (hcn : zgcn G = zcC) {i0 : Nat} {M : cM} {r : Int32} {M' : cM} (h : m8_firstWord i0 M = some (r, M')) : zMet l G yX8_firstWord cX8_firstWord 1 (some .int) 0 0 [.inr (.inr (some (8, i0)))] (zfC M) (some (.inl r)) (zfC M') :=
  zMet_of hG tbX8_ok rfl (by decide +kernel) (Nat.le_of_ble_eq_true rfl) (fun X _ Z hA hE => m8_firstWord_ok ⟨Z, hcn, hA⟩ hE i0 M h)
abbrev q8_firstSum : ByteArray × Nat × String × zT := (cX8_firstSum, 1, RX8, tbX8)
def m8_firstSum (i0 : Nat) (M : cM) : Option (Nat × cM) := zgd (Nat.blt i0 10 && ((Nat.blt i0 10 && zin (0 : Int32) 4) && true)) (some ((cp M 901 i0 (nx (0 : Int32))), M))
theorem m8_firstSum_ok {X : zX} {G : zG} (Hy : zHy X G q8_firstSum zcC 0 0 (some (.object "EarField$Sum"))) {r : Nat} {M' : cM} (hE : zEnd X G (some (.inr (.inr (some (9, r))))) (zfC M')) (i0 : Nat) (M : cM) (h : m8_firstSum i0 M = some (r, M')) : zGo (X, q8_firstSum, G) 0 0 (0, [(0, .inr (.inr (some (8, i0))))], [], zfC M) := by
  unfold m8_firstSum at h
  obtain ⟨hg1, h⟩ := zgd_inv h
  refine zblq Hy.1 Hy.2.1 [(.aload 0, 1), (.getfield 801, 3), (.iconst 0, 1), (.aaload, 1)] (S' := (6, [(0, .inr (.inr (some (8, i0))))], [.inr (.inr (some (9, (cp M 901 i0 (nx (0 : Int32))))))], zfC M)) (b := Nat.blt i0 10 && ((Nat.blt i0 10 && zin (0 : Int32) 4) && true)) (by decide +kernel) rfl hg1 ?_
  cases h
  exact zret_a Hy.1 Hy.2.2 hE (by decide +kernel)
theorem m8_firstSum_met {l : Launch} {G : zG} (hG : zGok G) (hcn : zgcn G = zcC) {i0 : Nat} {M : cM} {r : Nat} {M' : cM} (h : m8_firstSum i0 M = some (r, M')) : zMet l G yX8_firstSum cX8_firstSum 1 (some (.object "EarField$Sum")) 0 0 [.inr (.inr (some (8, i0)))] (zfC M) (some (.inr (.inr (some (9, r))))) (zfC M') :=
  zMet_of hG tbX8_ok rfl (by decide +kernel) (Nat.le_of_ble_eq_true rfl) (fun X _ Z hA hE => m8_firstSum_ok ⟨Z, hcn, hA⟩ hE i0 M h)
abbrev q9_join : ByteArray × Nat × String × zT := (cX9_join, 2, RX9, tbX9)
def m9_join_77 (i0 : Nat) (i1 : Nat) (M : cM) : Option cM := zgd (Nat.blt i0 51 && (Nat.blt i1 51 && ((Nat.blt i0 51 && true) && true))) (some (cs M 9 i0 4 ((cg M 9 i0 4) ||| (cg M 9 i1 4))))
theorem m9_join_77_ok {X : zX} {G : zG} (Hy : zHy X G q9_join zcC 1 21 (none)) {M' : cM} (hE : zEnd X G (none) (zfC M')) (i0 : Nat) (i1 : Nat) (M : cM) (h : m9_join_77 i0 i1 M = some M') : zGo (X, q9_join, G) 0 0 (77, [(0, .inr (.inr (some (9, i0)))), (1, .inr (.inr (some (9, i1))))], [], zfC M) := by
  unfold m9_join_77 at h
  obtain ⟨hg10, h⟩ := zgd_inv h
  refine zblq Hy.1 Hy.2.1 [(.aload 0, 1), (.dup, 1), (.multianewarray 9 4, 3), (.aload 1, 1), (.multianewarray 9 4, 3), (.ior, 1), (.invokeinterface 9 4, 3)] (S' := (90, [(0, .inr (.inr (some (9, i0)))), (1, .inr (.inr (some (9, i1))))], [], zfC (cs M 9 i0 4 ((cg M 9 i0 4) ||| (cg M 9 i1 4))))) (b := Nat.blt i0 51 && (Nat.blt i1 51 && ((Nat.blt i0 51 && true) && true))) (by decide +kernel) rfl hg10 ?_
  cases h
  exact zret_v Hy.1 Hy.2.2 hE (by decide +kernel)
def m9_join (i0 : Nat) (i1 : Nat) (M : cM) : Option cM := zgd (Nat.blt i1 51) (zbd (m9_isEmpty i1 M) (fun r1 M1 => (if r1 = 0 then zgd (Nat.blt i0 51) (zbd (m9_isEmpty i0 M1) (fun r3 M3 => (if r3 = 0 then zgd (Nat.blt i0 51 && (Nat.blt i1 51 && true)) (zbd (mJ9_min (cg M3 9 i0 0) (cg M3 9 i1 0) M3) (fun r6 M6 => zgd ((Nat.blt i0 51 && true) && (Nat.blt i0 51 && (Nat.blt i1 51 && true))) (zbd (mJ9_max (cg (cs M6 9 i0 0 r6) 9 i0 1) (cg (cs M6 9 i0 0 r6) 9 i1 1) (cs M6 9 i0 0 r6)) (fun r8 M8 => zgd ((Nat.blt i0 51 && true) && (Nat.blt i0 51 && (Nat.blt i1 51 && ((Nat.blt i0 51 && true) && (Nat.blt i0 51 && (Nat.blt i1 51 && ((Nat.blt i0 51 && true) && true))))))) (m9_join_77 i0 i1 (cs (cs (cs M8 9 i0 1 r8) 9 i0 2 ((cg (cs M8 9 i0 1 r8) 9 i0 2) + (cg (cs M8 9 i0 1 r8) 9 i1 2))) 9 i0 3 ((cg (cs (cs M8 9 i0 1 r8) 9 i0 2 ((cg (cs M8 9 i0 1 r8) 9 i0 2) + (cg (cs M8 9 i0 1 r8) 9 i1 2))) 9 i0 3) + (cg (cs (cs M8 9 i0 1 r8) 9 i0 2 ((cg (cs M8 9 i0 1 r8) 9 i0 2) + (cg (cs M8 9 i0 1 r8) 9 i1 2))) 9 i1 3)))))))) else zgd (Nat.blt i0 51) (zbv (m9_copy i0 i1 M3) (fun M11 => some M11))))) else some M1)))
theorem m9_join_ok {X : zX} {G : zG} (Hy : zHy X G q9_join zcC 1 21 (none)) {M' : cM} (hE : zEnd X G (none) (zfC M')) (i0 : Nat) (i1 : Nat) (M : cM) (h : m9_join i0 i1 M = some M') : zGo (X, q9_join, G) 0 0 (0, [(0, .inr (.inr (some (9, i0)))), (1, .inr (.inr (some (9, i1))))], [], zfC M) := by
  unfold m9_join at h
  refine zblq Hy.1 Hy.2.1 [(.aload 1, 1)] (S' := (1, [(0, .inr (.inr (some (9, i0)))), (1, .inr (.inr (some (9, i1))))], [.inr (.inr (some (9, i1)))], zfC M)) (b := true) (by decide +kernel) rfl rfl ?_
  obtain ⟨hg2, h⟩ := zgd_inv h
  obtain ⟨r1, M1, hc1, h⟩ := zbd_inv h
  refine zcallV Hy.1 (as := []) (st := []) (m9_isEmpty_met (zOK_G Hy.1) Hy.2.1 hc1) cw9_25 m9_isEmpty_in m9_isEmpty_se (by decide) (zhlv Hy.2.1 hg2) rfl (zroom Hy.2.2 ⟨by decide, by decide⟩) rfl (by decide +kernel) ⟨Nat.zero_le _, Nat.zero_le _⟩ ?_
  refine zif_eq Hy.1 (off := 4) (tgt := 8) (by decide +kernel) (by decide) (fun hb14 => ?_) (fun hb14 => ?_)
  · replace h := zite_t h hb14
    refine zblq Hy.1 Hy.2.1 [(.aload 0, 1)] (S' := (9, [(0, .inr (.inr (some (9, i0)))), (1, .inr (.inr (some (9, i1))))], [.inr (.inr (some (9, i0)))], zfC M1)) (b := true) (by decide +kernel) rfl rfl ?_
    obtain ⟨hg4, h⟩ := zgd_inv h
    obtain ⟨r3, M3, hc3, h⟩ := zbd_inv h
    refine zcallV Hy.1 (as := []) (st := []) (m9_isEmpty_met (zOK_G Hy.1) Hy.2.1 hc3) cw9_25 m9_isEmpty_in m9_isEmpty_se (by decide) (zhlv Hy.2.1 hg4) rfl (zroom Hy.2.2 ⟨by decide, by decide⟩) rfl (by decide +kernel) ⟨Nat.zero_le _, Nat.zero_le _⟩ ?_
    refine zif_eq Hy.1 (off := 9) (tgt := 21) (by decide +kernel) (by decide) (fun hb13 => ?_) (fun hb13 => ?_)
    · replace h := zite_t h hb13
      obtain ⟨hg5, h⟩ := zgd_inv h
      refine zblq Hy.1 Hy.2.1 [(.aload 0, 1), (.aload 0, 1), (.multianewarray 9 0, 3), (.aload 1, 1), (.multianewarray 9 0, 3)] (S' := (30, [(0, .inr (.inr (some (9, i0)))), (1, .inr (.inr (some (9, i1))))], [.inl (cg M3 9 i1 0), .inl (cg M3 9 i0 0), .inr (.inr (some (9, i0)))], zfC M3)) (b := Nat.blt i0 51 && (Nat.blt i1 51 && true)) (by decide +kernel) rfl hg5 ?_
      obtain ⟨r6, M6, hc6, h⟩ := zbd_inv h
      refine zcallS Hy.1 (as := [.inl (cg M3 9 i0 0), .inl (cg M3 9 i1 0)]) (st := [.inr (.inr (some (9, i0)))]) (mJ9_min_met (zOK_G Hy.1) Hy.2.1 hc6) cw9_33 mJ9_min_in rfl (zroom Hy.2.2 ⟨by decide, by decide⟩) rfl (by decide +kernel) ⟨Nat.zero_le _, Nat.zero_le _⟩ ?_
      obtain ⟨hg7, h⟩ := zgd_inv h
      refine zblq Hy.1 Hy.2.1 [(.invokeinterface 9 0, 3), (.aload 0, 1), (.aload 0, 1), (.multianewarray 9 1, 3), (.aload 1, 1), (.multianewarray 9 1, 3)] (S' := (45, [(0, .inr (.inr (some (9, i0)))), (1, .inr (.inr (some (9, i1))))], [.inl (cg (cs M6 9 i0 0 r6) 9 i1 1), .inl (cg (cs M6 9 i0 0 r6) 9 i0 1), .inr (.inr (some (9, i0)))], zfC (cs M6 9 i0 0 r6))) (b := (Nat.blt i0 51 && true) && (Nat.blt i0 51 && (Nat.blt i1 51 && true))) (by decide +kernel) rfl hg7 ?_
      obtain ⟨r8, M8, hc8, h⟩ := zbd_inv h
      refine zcallS Hy.1 (as := [.inl (cg (cs M6 9 i0 0 r6) 9 i0 1), .inl (cg (cs M6 9 i0 0 r6) 9 i1 1)]) (st := [.inr (.inr (some (9, i0)))]) (mJ9_max_met (zOK_G Hy.1) Hy.2.1 hc8) cw9_39 mJ9_max_in rfl (zroom Hy.2.2 ⟨by decide, by decide⟩) rfl (by decide +kernel) ⟨Nat.zero_le _, Nat.zero_le _⟩ ?_
      obtain ⟨hg9, h⟩ := zgd_inv h
      refine zblq Hy.1 Hy.2.1 [(.invokeinterface 9 1, 3), (.aload 0, 1), (.dup, 1), (.multianewarray 9 2, 3), (.aload 1, 1), (.multianewarray 9 2, 3), (.iadd, 1), (.invokeinterface 9 2, 3), (.aload 0, 1), (.dup, 1), (.multianewarray 9 3, 3), (.aload 1, 1), (.multianewarray 9 3, 3), (.iadd, 1), (.invokeinterface 9 3, 3)] (S' := (77, [(0, .inr (.inr (some (9, i0)))), (1, .inr (.inr (some (9, i1))))], [], zfC (cs (cs (cs M8 9 i0 1 r8) 9 i0 2 ((cg (cs M8 9 i0 1 r8) 9 i0 2) + (cg (cs M8 9 i0 1 r8) 9 i1 2))) 9 i0 3 ((cg (cs (cs M8 9 i0 1 r8) 9 i0 2 ((cg (cs M8 9 i0 1 r8) 9 i0 2) + (cg (cs M8 9 i0 1 r8) 9 i1 2))) 9 i0 3) + (cg (cs (cs M8 9 i0 1 r8) 9 i0 2 ((cg (cs M8 9 i0 1 r8) 9 i0 2) + (cg (cs M8 9 i0 1 r8) 9 i1 2))) 9 i1 3))))) (b := (Nat.blt i0 51 && true) && (Nat.blt i0 51 && (Nat.blt i1 51 && ((Nat.blt i0 51 && true) && (Nat.blt i0 51 && (Nat.blt i1 51 && ((Nat.blt i0 51 && true) && true))))))) (by decide +kernel) rfl hg9 ?_
      refine zGo_keep [0, 1] rfl ?_
      exact m9_join_77_ok Hy hE i0 i1 (cs (cs (cs M8 9 i0 1 r8) 9 i0 2 ((cg (cs M8 9 i0 1 r8) 9 i0 2) + (cg (cs M8 9 i0 1 r8) 9 i1 2))) 9 i0 3 ((cg (cs (cs M8 9 i0 1 r8) 9 i0 2 ((cg (cs M8 9 i0 1 r8) 9 i0 2) + (cg (cs M8 9 i0 1 r8) 9 i1 2))) 9 i0 3) + (cg (cs (cs M8 9 i0 1 r8) 9 i0 2 ((cg (cs M8 9 i0 1 r8) 9 i0 2) + (cg (cs M8 9 i0 1 r8) 9 i1 2))) 9 i1 3))) h
    · replace h := zite_f h hb13
      refine zblq Hy.1 Hy.2.1 [(.aload 0, 1), (.aload 1, 1)] (S' := (17, [(0, .inr (.inr (some (9, i0)))), (1, .inr (.inr (some (9, i1))))], [.inr (.inr (some (9, i1))), .inr (.inr (some (9, i0)))], zfC M3)) (b := true) (by decide +kernel) rfl rfl ?_
      obtain ⟨hg12, h⟩ := zgd_inv h
      obtain ⟨M11, hc11, h⟩ := zbv_inv h
      refine zcallV Hy.1 (as := [.inr (.inr (some (9, i1)))]) (st := []) (m9_copy_met (zOK_G Hy.1) Hy.2.1 hc11) cw9_29 m9_copy_in m9_copy_se (by decide) (zhlv Hy.2.1 hg12) rfl (zroom Hy.2.2 ⟨by decide, by decide⟩) rfl (by decide +kernel) ⟨Nat.zero_le _, Nat.zero_le _⟩ ?_
      cases h
      exact zret_v Hy.1 Hy.2.2 hE (by decide +kernel)
  · replace h := zite_f h hb14
    cases h
    exact zret_v Hy.1 Hy.2.2 hE (by decide +kernel)
theorem m9_join_met {l : Launch} {G : zG} (hG : zGok G) (hcn : zgcn G = zcC) {i0 : Nat} {i1 : Nat} {M : cM} {M' : cM} (h : m9_join i0 i1 M = some M') : zMet l G yX9_join cX9_join 2 (none) 1 21 [.inr (.inr (some (9, i0))), .inr (.inr (some (9, i1)))] (zfC M) (none) (zfC M') :=
  zMet_of hG tbX9_ok rfl (by decide +kernel) (Nat.le_of_ble_eq_true rfl) (fun X _ Z hA hE => m9_join_ok ⟨Z, hcn, hA⟩ hE i0 i1 M h)
abbrev q0_keepWord : ByteArray × Nat × String × zT := (cX0_keepWord, 3, RX0, tbX0)
def m0_keepWord_3 : Nat → Int32 → Int32 → cM → Option cM
  | 0, _, _, _ => none
  | n + 1, x1, x2, M => (if x2 ≤ 0 then zgd (zin (0 : Int32) 12 && true) (zbd (mJ9_min ((cg (cs M 104 0 (nx (0 : Int32)) x1) 0 0 5) + (1 : Int32)) (12 : Int32) (cs M 104 0 (nx (0 : Int32)) x1)) (fun r2 M2 => some (cs M2 0 0 5 r2))) else zgd (zin (x2 - (1 : Int32)) 12 && (zin x2 12 && true)) ((m0_keepWord_3 n) x1 (x2 + (-1 : Int32)) (cs M 104 0 (nx x2) (cg M 104 0 (nx (x2 - (1 : Int32)))))))
theorem m0_keepWord_3_ok {X : zX} {G : zG} (Hy : zHy X G q0_keepWord zcC 1 21 (none)) {M' : cM} (hE : zEnd X G (none) (zfC M')) : ∀ (n : Nat) (x1 : Int32) (x2 : Int32) (M : cM), m0_keepWord_3 n x1 x2 M = some M' → zGo (X, q0_keepWord, G) 0 0 (3, [(0, .inr (.inr (some (0, 0)))), (1, .inl x1), (2, .inl x2)], [], zfC M) := by
  intro n
  induction n with
  | zero => intro x1 x2 M h; cases h
  | succ n ih =>
    intro x1 x2 M h
    unfold m0_keepWord_3 at h
    refine zblq Hy.1 Hy.2.1 [(.iload 2, 1)] (S' := (4, [(0, .inr (.inr (some (0, 0)))), (1, .inl x1), (2, .inl x2)], [.inl x2], zfC M)) (b := true) (by decide +kernel) rfl rfl ?_
    refine zif_le Hy.1 (off := 23) (tgt := 27) (by decide +kernel) (by decide) (fun hb4 => ?_) (fun hb4 => ?_)
    · replace h := zite_t h hb4
      obtain ⟨hg1, h⟩ := zgd_inv h
      refine zblq Hy.1 Hy.2.1 [(.aload 0, 1), (.getfield 4, 3), (.iconst 0, 1), (.iload 1, 1), (.iastore, 1), (.aload 0, 1), (.aload 0, 1), (.multianewarray 0 5, 3), (.iconst 1, 1), (.iadd, 1), (.iconst 12, 2)] (S' := (43, [(0, .inr (.inr (some (0, 0)))), (1, .inl x1), (2, .inl x2)], [.inl (12 : Int32), .inl ((cg (cs M 104 0 (nx (0 : Int32)) x1) 0 0 5) + (1 : Int32)), .inr (.inr (some (0, 0)))], zfC (cs M 104 0 (nx (0 : Int32)) x1))) (b := zin (0 : Int32) 12 && true) (by decide +kernel) rfl hg1 ?_
      obtain ⟨r2, M2, hc2, h⟩ := zbd_inv h
      refine zcallS Hy.1 (as := [.inl ((cg (cs M 104 0 (nx (0 : Int32)) x1) 0 0 5) + (1 : Int32)), .inl (12 : Int32)]) (st := [.inr (.inr (some (0, 0)))]) (mJ9_min_met (zOK_G Hy.1) Hy.2.1 hc2) cw0_217 mJ9_min_in rfl (zroom Hy.2.2 ⟨by decide, by decide⟩) rfl (by decide +kernel) ⟨Nat.zero_le _, Nat.zero_le _⟩ ?_
      refine zblq Hy.1 Hy.2.1 [(.invokeinterface 0 5, 3)] (S' := (49, [(0, .inr (.inr (some (0, 0)))), (1, .inl x1), (2, .inl x2)], [], zfC (cs M2 0 0 5 r2))) (b := true) (by decide +kernel) rfl rfl ?_
      cases h
      exact zret_v Hy.1 Hy.2.2 hE (by decide +kernel)
    · replace h := zite_f h hb4
      obtain ⟨hg3, h⟩ := zgd_inv h
      refine zblq Hy.1 Hy.2.1 [(.aload 0, 1), (.getfield 4, 3), (.iload 2, 1), (.aload 0, 1), (.getfield 4, 3), (.iload 2, 1), (.iconst 1, 1), (.isub, 1), (.iaload, 1), (.iastore, 1), (.iinc 2 (-1), 3), (.ldc 3, 3)] (S' := (3, [(0, .inr (.inr (some (0, 0)))), (1, .inl x1), (2, .inl (x2 + (-1 : Int32)))], [], zfC (cs M 104 0 (nx x2) (cg M 104 0 (nx (x2 - (1 : Int32))))))) (b := zin (x2 - (1 : Int32)) 12 && (zin x2 12 && true)) (by decide +kernel) rfl hg3 ?_
      refine zGo_keep [0, 1, 2] rfl ?_
      exact ih x1 (x2 + (-1 : Int32)) (cs M 104 0 (nx x2) (cg M 104 0 (nx (x2 - (1 : Int32))))) h
def m0_keepWord (x1 : Int32) (M : cM) : Option cM := m0_keepWord_3 zfu x1 (11 : Int32) M
theorem m0_keepWord_ok {X : zX} {G : zG} (Hy : zHy X G q0_keepWord zcC 1 21 (none)) {M' : cM} (hE : zEnd X G (none) (zfC M')) (x1 : Int32) (M : cM) (h : m0_keepWord x1 M = some M') : zGo (X, q0_keepWord, G) 0 0 (0, [(0, .inr (.inr (some (0, 0)))), (1, .inl x1)], [], zfC M) := by
  unfold m0_keepWord at h
  refine zblq Hy.1 Hy.2.1 [(.iconst 11, 2), (.istore 2, 1)] (S' := (3, [(0, .inr (.inr (some (0, 0)))), (1, .inl x1), (2, .inl (11 : Int32))], [], zfC M)) (b := true) (by decide +kernel) rfl rfl ?_
  refine zGo_keep [0, 1, 2] rfl ?_
  exact m0_keepWord_3_ok Hy hE zfu x1 (11 : Int32) M h
theorem m0_keepWord_met {l : Launch} {G : zG} (hG : zGok G) (hcn : zgcn G = zcC) {x1 : Int32} {M : cM} {M' : cM} (h : m0_keepWord x1 M = some M') : zMet l G yX0_keepWord cX0_keepWord 3 (none) 1 21 [.inr (.inr (some (0, 0))), .inl x1] (zfC M) (none) (zfC M') :=
  zMet_of hG tbX0_ok rfl (by decide +kernel) (Nat.le_of_ble_eq_true rfl) (fun X _ Z hA hE => m0_keepWord_ok ⟨Z, hcn, hA⟩ hE x1 M h)
abbrev q0_give : ByteArray × Nat × String × zT := (cX0_give, 3, RX0, tbX0)
def m0_give_86 (i1 : Nat) (i2 : Nat) (M : cM) : Option cM := zgd (Nat.blt i2 10 && true) (zgd (Nat.blt i2 10) (zbd (m8_isFull i2 M) (fun r5 M5 => (if r5 = 0 then zgd (Nat.blt i1 10) (zbd (m8_firstIsSum i1 M5) (fun r7 M7 => (if r7 = 0 then zgd (Nat.blt i2 10 && true) (zgd (Nat.blt i1 10) (zbd (m8_firstWord i1 M7) (fun r10 M10 => zgd (Nat.blt i2 10) (zbv (m8_addWord i2 r10 M10) (fun M12 => some M12))))) else zgd (Nat.blt i2 10 && true) (zgd (Nat.blt i1 10) (zbd (m8_firstSum i1 M7) (fun r15 M15 => zgd (Nat.blt i2 10) (zbv (m8_addSum i2 r15 M15) (fun M17 => some M17)))))))) else zgd (zin (4 : Int32) 8 && (zin (4 : Int32) 8 && true)) (some (cs M5 103 0 (nx (4 : Int32)) ((cg M5 103 0 (nx (4 : Int32))) + (1 : Int32))))))))
theorem m0_give_86_ok {X : zX} {G : zG} (Hy : zHy X G q0_give zcC 2 43 (none)) {M' : cM} (hE : zEnd X G (none) (zfC M')) (i1 : Nat) (i2 : Nat) (M : cM) (h : m0_give_86 i1 i2 M = some M') : zGo (X, q0_give, G) 0 0 (86, [(0, .inr (.inr (some (0, 0)))), (1, .inr (.inr (some (8, i1)))), (2, .inr (.inr (some (2, i2))))], [], zfC M) := by
  unfold m0_give_86 at h
  obtain ⟨hg4, h⟩ := zgd_inv h
  refine zblq Hy.1 Hy.2.1 [(.aload 2, 1), (.getfield 215, 3)] (S' := (90, [(0, .inr (.inr (some (0, 0)))), (1, .inr (.inr (some (8, i1)))), (2, .inr (.inr (some (2, i2))))], [.inr (.inr (some (8, i2)))], zfC M)) (b := Nat.blt i2 10 && true) (by decide +kernel) rfl hg4 ?_
  obtain ⟨hg6, h⟩ := zgd_inv h
  obtain ⟨r5, M5, hc5, h⟩ := zbd_inv h
  refine zcallV Hy.1 (as := []) (st := []) (m8_isFull_met (zOK_G Hy.1) Hy.2.1 hc5) cw0_157 m8_isFull_in m8_isFull_se (by decide) (zhlv Hy.2.1 hg6) rfl (zroom Hy.2.2 ⟨by decide, by decide⟩) rfl (by decide +kernel) ⟨Nat.zero_le _, Nat.zero_le _⟩ ?_
  refine zif_eq Hy.1 (off := 16) (tgt := 109) (by decide +kernel) (by decide) (fun hb21 => ?_) (fun hb21 => ?_)
  · replace h := zite_t h hb21
    refine zblq Hy.1 Hy.2.1 [(.aload 1, 1)] (S' := (110, [(0, .inr (.inr (some (0, 0)))), (1, .inr (.inr (some (8, i1)))), (2, .inr (.inr (some (2, i2))))], [.inr (.inr (some (8, i1)))], zfC M5)) (b := true) (by decide +kernel) rfl rfl ?_
    obtain ⟨hg8, h⟩ := zgd_inv h
    obtain ⟨r7, M7, hc7, h⟩ := zbd_inv h
    refine zcallV Hy.1 (as := []) (st := []) (m8_firstIsSum_met (zOK_G Hy.1) Hy.2.1 hc7) cw0_195 m8_firstIsSum_in m8_firstIsSum_se (by decide) (zhlv Hy.2.1 hg8) rfl (zroom Hy.2.2 ⟨by decide, by decide⟩) rfl (by decide +kernel) ⟨Nat.zero_le _, Nat.zero_le _⟩ ?_
    refine zif_eq Hy.1 (off := 17) (tgt := 130) (by decide +kernel) (by decide) (fun hb19 => ?_) (fun hb19 => ?_)
    · replace h := zite_t h hb19
      obtain ⟨hg9, h⟩ := zgd_inv h
      refine zblq Hy.1 Hy.2.1 [(.aload 2, 1), (.getfield 215, 3), (.aload 1, 1)] (S' := (135, [(0, .inr (.inr (some (0, 0)))), (1, .inr (.inr (some (8, i1)))), (2, .inr (.inr (some (2, i2))))], [.inr (.inr (some (8, i1))), .inr (.inr (some (8, i2)))], zfC M7)) (b := Nat.blt i2 10 && true) (by decide +kernel) rfl hg9 ?_
      obtain ⟨hg11, h⟩ := zgd_inv h
      obtain ⟨r10, M10, hc10, h⟩ := zbd_inv h
      refine zcallV Hy.1 (as := []) (st := [.inr (.inr (some (8, i2)))]) (m8_firstWord_met (zOK_G Hy.1) Hy.2.1 hc10) cw0_205 m8_firstWord_in m8_firstWord_se (by decide) (zhlv Hy.2.1 hg11) rfl (zroom Hy.2.2 ⟨by decide, by decide⟩) rfl (by decide +kernel) ⟨Nat.zero_le _, Nat.zero_le _⟩ ?_
      obtain ⟨hg13, h⟩ := zgd_inv h
      obtain ⟨M12, hc12, h⟩ := zbv_inv h
      refine zcallV Hy.1 (as := [.inl r10]) (st := []) (m8_addWord_met (zOK_G Hy.1) Hy.2.1 hc12) cw0_214 m8_addWord_in m8_addWord_se (by decide) (zhlv Hy.2.1 hg13) rfl (zroom Hy.2.2 ⟨by decide, by decide⟩) rfl (by decide +kernel) ⟨Nat.zero_le _, Nat.zero_le _⟩ ?_
      cases h
      exact zret_v Hy.1 Hy.2.2 hE (by decide +kernel)
    · replace h := zite_f h hb19
      obtain ⟨hg14, h⟩ := zgd_inv h
      refine zblq Hy.1 Hy.2.1 [(.aload 2, 1), (.getfield 215, 3), (.aload 1, 1)] (S' := (121, [(0, .inr (.inr (some (0, 0)))), (1, .inr (.inr (some (8, i1)))), (2, .inr (.inr (some (2, i2))))], [.inr (.inr (some (8, i1))), .inr (.inr (some (8, i2)))], zfC M7)) (b := Nat.blt i2 10 && true) (by decide +kernel) rfl hg14 ?_
      obtain ⟨hg16, h⟩ := zgd_inv h
      obtain ⟨r15, M15, hc15, h⟩ := zbd_inv h
      refine zcallV Hy.1 (as := []) (st := [.inr (.inr (some (8, i2)))]) (m8_firstSum_met (zOK_G Hy.1) Hy.2.1 hc15) cw0_198 m8_firstSum_in m8_firstSum_se (by decide) (zhlv Hy.2.1 hg16) rfl (zroom Hy.2.2 ⟨by decide, by decide⟩) rfl (by decide +kernel) ⟨Nat.zero_le _, Nat.zero_le _⟩ ?_
      obtain ⟨hg18, h⟩ := zgd_inv h
      obtain ⟨M17, hc17, h⟩ := zbv_inv h
      refine zcallV Hy.1 (as := [.inr (.inr (some (9, r15)))]) (st := []) (m8_addSum_met (zOK_G Hy.1) Hy.2.1 hc17) cw0_162 m8_addSum_in m8_addSum_se (by decide) (zhlv Hy.2.1 hg18) rfl (zroom Hy.2.2 ⟨by decide, by decide⟩) rfl (by decide +kernel) ⟨Nat.zero_le _, Nat.zero_le _⟩ ?_
      refine zblq Hy.1 Hy.2.1 [(.ldc 141, 3)] (S' := (141, [(0, .inr (.inr (some (0, 0)))), (1, .inr (.inr (some (8, i1)))), (2, .inr (.inr (some (2, i2))))], [], zfC M17)) (b := true) (by decide +kernel) rfl rfl ?_
      cases h
      exact zret_v Hy.1 Hy.2.2 hE (by decide +kernel)
  · replace h := zite_f h hb21
    obtain ⟨hg20, h⟩ := zgd_inv h
    refine zblq Hy.1 Hy.2.1 [(.aload 0, 1), (.getfield 3, 3), (.iconst 4, 1), (.dup2, 1), (.iaload, 1), (.iconst 1, 1), (.iadd, 1), (.iastore, 1), (.ldc 141, 3)] (S' := (141, [(0, .inr (.inr (some (0, 0)))), (1, .inr (.inr (some (8, i1)))), (2, .inr (.inr (some (2, i2))))], [], zfC (cs M5 103 0 (nx (4 : Int32)) ((cg M5 103 0 (nx (4 : Int32))) + (1 : Int32))))) (b := zin (4 : Int32) 8 && (zin (4 : Int32) 8 && true)) (by decide +kernel) rfl hg20 ?_
    cases h
    exact zret_v Hy.1 Hy.2.2 hE (by decide +kernel)
def m0_give (i1 : Nat) (i2 : Nat) (M : cM) : Option cM := zgd (Nat.blt i2 10 && true) ((if (cg M 2 i2 0) = 0 then zgd (zin (6 : Int32) 8 && (zin (6 : Int32) 8 && true)) (zgd (Nat.blt i1 10) (zbd (m8_firstIsSum i1 (cs M 103 0 (nx (6 : Int32)) ((cg M 103 0 (nx (6 : Int32))) + (1 : Int32)))) (fun r33 M33 => (if r33 = 0 then zgd (Nat.blt i1 10) (zbd (m8_firstWord i1 M33) (fun r35 M35 => zbv (m0_keepWord r35 M35) (fun M37 => some M37))) else zgd (Nat.blt i1 10) (zbd (m8_firstSum i1 M33) (fun r38 M38 => zbv (m9_join 50 r38 M38) (fun M40 => some M40))))))) else zgd (Nat.blt i1 10) (zbd (m8_firstIsSum i1 M) (fun r2 M2 => (if r2 = 0 then m0_give_86 i1 i2 M2 else zgd (Nat.blt i2 10 && true) ((if (cg M2 2 i2 1) = (1 : Int32) then zgd (Nat.blt i2 10 && true) ((if (cg M2 2 i2 14) = 0 then zgd (Nat.blt i2 10 && true) (zgd (Nat.blt i1 10) (zbd (m8_firstSum i1 M2) (fun r25 M25 => zgd (Nat.blt i2 51) (zbv (m9_join i2 r25 M25) (fun M27 => some M27))))) else m0_give_86 i1 i2 M2)) else m0_give_86 i1 i2 M2)))))))
theorem m0_give_ok {X : zX} {G : zG} (Hy : zHy X G q0_give zcC 2 43 (none)) {M' : cM} (hE : zEnd X G (none) (zfC M')) (i1 : Nat) (i2 : Nat) (M : cM) (h : m0_give i1 i2 M = some M') : zGo (X, q0_give, G) 0 0 (0, [(0, .inr (.inr (some (0, 0)))), (1, .inr (.inr (some (8, i1)))), (2, .inr (.inr (some (2, i2))))], [], zfC M) := by
  unfold m0_give at h
  obtain ⟨hg1, h⟩ := zgd_inv h
  refine zblq Hy.1 Hy.2.1 [(.aload 2, 1), (.multianewarray 2 0, 3)] (S' := (4, [(0, .inr (.inr (some (0, 0)))), (1, .inr (.inr (some (8, i1)))), (2, .inr (.inr (some (2, i2))))], [.inl (cg M 2 i2 0)], zfC M)) (b := Nat.blt i2 10 && true) (by decide +kernel) rfl hg1 ?_
  refine zif_ne Hy.1 (off := 46) (tgt := 50) (by decide +kernel) (by decide) (fun hb42 => ?_) (fun hb42 => ?_)
  · replace h := zite_f h hb42
    refine zblq Hy.1 Hy.2.1 [(.aload 1, 1)] (S' := (51, [(0, .inr (.inr (some (0, 0)))), (1, .inr (.inr (some (8, i1)))), (2, .inr (.inr (some (2, i2))))], [.inr (.inr (some (8, i1)))], zfC M)) (b := true) (by decide +kernel) rfl rfl ?_
    obtain ⟨hg3, h⟩ := zgd_inv h
    obtain ⟨r2, M2, hc2, h⟩ := zbd_inv h
    refine zcallV Hy.1 (as := []) (st := []) (m8_firstIsSum_met (zOK_G Hy.1) Hy.2.1 hc2) cw0_195 m8_firstIsSum_in m8_firstIsSum_se (by decide) (zhlv Hy.2.1 hg3) rfl (zroom Hy.2.2 ⟨by decide, by decide⟩) rfl (by decide +kernel) ⟨Nat.zero_le _, Nat.zero_le _⟩ ?_
    refine zif_eq Hy.1 (off := 32) (tgt := 86) (by decide +kernel) (by decide) (fun hb31 => ?_) (fun hb31 => ?_)
    · replace h := zite_t h hb31
      refine zGo_keep [0, 1, 2] rfl ?_
      exact m0_give_86_ok Hy hE i1 i2 M2 h
    · replace h := zite_f h hb31
      obtain ⟨hg22, h⟩ := zgd_inv h
      refine zblq Hy.1 Hy.2.1 [(.aload 2, 1), (.multianewarray 2 1, 3), (.iconst 1, 1)] (S' := (62, [(0, .inr (.inr (some (0, 0)))), (1, .inr (.inr (some (8, i1)))), (2, .inr (.inr (some (2, i2))))], [.inl (1 : Int32), .inl (cg M2 2 i2 1)], zfC M2)) (b := Nat.blt i2 10 && true) (by decide +kernel) rfl hg22 ?_
      refine zic_ne Hy.1 (off := 24) (tgt := 86) (by decide +kernel) (by decide) (fun hb30 => ?_) (fun hb30 => ?_)
      · replace h := zite_f h hb30
        refine zGo_keep [0, 1, 2] rfl ?_
        exact m0_give_86_ok Hy hE i1 i2 M2 h
      · replace h := zite_t h hb30
        obtain ⟨hg23, h⟩ := zgd_inv h
        refine zblq Hy.1 Hy.2.1 [(.aload 2, 1), (.multianewarray 2 14, 3)] (S' := (69, [(0, .inr (.inr (some (0, 0)))), (1, .inr (.inr (some (8, i1)))), (2, .inr (.inr (some (2, i2))))], [.inl (cg M2 2 i2 14)], zfC M2)) (b := Nat.blt i2 10 && true) (by decide +kernel) rfl hg23 ?_
        refine zif_ne Hy.1 (off := 17) (tgt := 86) (by decide +kernel) (by decide) (fun hb29 => ?_) (fun hb29 => ?_)
        · replace h := zite_f h hb29
          refine zGo_keep [0, 1, 2] rfl ?_
          exact m0_give_86_ok Hy hE i1 i2 M2 h
        · replace h := zite_t h hb29
          obtain ⟨hg24, h⟩ := zgd_inv h
          refine zblq Hy.1 Hy.2.1 [(.aload 2, 1), (.getfield 213, 3), (.aload 1, 1)] (S' := (77, [(0, .inr (.inr (some (0, 0)))), (1, .inr (.inr (some (8, i1)))), (2, .inr (.inr (some (2, i2))))], [.inr (.inr (some (8, i1))), .inr (.inr (some (9, i2)))], zfC M2)) (b := Nat.blt i2 10 && true) (by decide +kernel) rfl hg24 ?_
          obtain ⟨hg26, h⟩ := zgd_inv h
          obtain ⟨r25, M25, hc25, h⟩ := zbd_inv h
          refine zcallV Hy.1 (as := []) (st := [.inr (.inr (some (9, i2)))]) (m8_firstSum_met (zOK_G Hy.1) Hy.2.1 hc25) cw0_198 m8_firstSum_in m8_firstSum_se (by decide) (zhlv Hy.2.1 hg26) rfl (zroom Hy.2.2 ⟨by decide, by decide⟩) rfl (by decide +kernel) ⟨Nat.zero_le _, Nat.zero_le _⟩ ?_
          obtain ⟨hg28, h⟩ := zgd_inv h
          obtain ⟨M27, hc27, h⟩ := zbv_inv h
          refine zcallV Hy.1 (as := [.inr (.inr (some (9, r25)))]) (st := []) (m9_join_met (zOK_G Hy.1) Hy.2.1 hc27) cw0_202 m9_join_in m9_join_se (by decide) (zhlv Hy.2.1 hg28) rfl (zroom Hy.2.2 ⟨by decide, by decide⟩) rfl (by decide +kernel) ⟨Nat.zero_le _, Nat.zero_le _⟩ ?_
          refine zblq Hy.1 Hy.2.1 [(.ldc 141, 3)] (S' := (141, [(0, .inr (.inr (some (0, 0)))), (1, .inr (.inr (some (8, i1)))), (2, .inr (.inr (some (2, i2))))], [], zfC M27)) (b := true) (by decide +kernel) rfl rfl ?_
          cases h
          exact zret_v Hy.1 Hy.2.2 hE (by decide +kernel)
  · replace h := zite_t h hb42
    obtain ⟨hg32, h⟩ := zgd_inv h
    refine zblq Hy.1 Hy.2.1 [(.aload 0, 1), (.getfield 3, 3), (.iconst 6, 2), (.dup2, 1), (.iaload, 1), (.iconst 1, 1), (.iadd, 1), (.iastore, 1), (.aload 1, 1)] (S' := (19, [(0, .inr (.inr (some (0, 0)))), (1, .inr (.inr (some (8, i1)))), (2, .inr (.inr (some (2, i2))))], [.inr (.inr (some (8, i1)))], zfC (cs M 103 0 (nx (6 : Int32)) ((cg M 103 0 (nx (6 : Int32))) + (1 : Int32))))) (b := zin (6 : Int32) 8 && (zin (6 : Int32) 8 && true)) (by decide +kernel) rfl hg32 ?_
    obtain ⟨hg34, h⟩ := zgd_inv h
    obtain ⟨r33, M33, hc33, h⟩ := zbd_inv h
    refine zcallV Hy.1 (as := []) (st := []) (m8_firstIsSum_met (zOK_G Hy.1) Hy.2.1 hc33) cw0_195 m8_firstIsSum_in m8_firstIsSum_se (by decide) (zhlv Hy.2.1 hg34) rfl (zroom Hy.2.2 ⟨by decide, by decide⟩) rfl (by decide +kernel) ⟨Nat.zero_le _, Nat.zero_le _⟩ ?_
    refine zif_eq Hy.1 (off := 17) (tgt := 39) (by decide +kernel) (by decide) (fun hb41 => ?_) (fun hb41 => ?_)
    · replace h := zite_t h hb41
      refine zblq Hy.1 Hy.2.1 [(.aload 0, 1), (.aload 1, 1)] (S' := (41, [(0, .inr (.inr (some (0, 0)))), (1, .inr (.inr (some (8, i1)))), (2, .inr (.inr (some (2, i2))))], [.inr (.inr (some (8, i1))), .inr (.inr (some (0, 0)))], zfC M33)) (b := true) (by decide +kernel) rfl rfl ?_
      obtain ⟨hg36, h⟩ := zgd_inv h
      obtain ⟨r35, M35, hc35, h⟩ := zbd_inv h
      refine zcallV Hy.1 (as := []) (st := [.inr (.inr (some (0, 0)))]) (m8_firstWord_met (zOK_G Hy.1) Hy.2.1 hc35) cw0_205 m8_firstWord_in m8_firstWord_se (by decide) (zhlv Hy.2.1 hg36) rfl (zroom Hy.2.2 ⟨by decide, by decide⟩) rfl (by decide +kernel) ⟨Nat.zero_le _, Nat.zero_le _⟩ ?_
      obtain ⟨M37, hc37, h⟩ := zbv_inv h
      refine zcallV Hy.1 (as := [.inl r35]) (st := []) (m0_keepWord_met (zOK_G Hy.1) Hy.2.1 hc37) cw0_208 m0_keepWord_in m0_keepWord_se (by decide) (zhlv Hy.2.1 rfl) rfl (zroom Hy.2.2 ⟨by decide, by decide⟩) rfl (by decide +kernel) ⟨Nat.zero_le _, Nat.zero_le _⟩ ?_
      refine zblq Hy.1 Hy.2.1 [(.ldc 141, 3)] (S' := (141, [(0, .inr (.inr (some (0, 0)))), (1, .inr (.inr (some (8, i1)))), (2, .inr (.inr (some (2, i2))))], [], zfC M37)) (b := true) (by decide +kernel) rfl rfl ?_
      cases h
      exact zret_v Hy.1 Hy.2.2 hE (by decide +kernel)
    · replace h := zite_f h hb41
      refine zblq Hy.1 Hy.2.1 [(.aload 0, 1), (.getfield 2, 3), (.aload 1, 1)] (S' := (30, [(0, .inr (.inr (some (0, 0)))), (1, .inr (.inr (some (8, i1)))), (2, .inr (.inr (some (2, i2))))], [.inr (.inr (some (8, i1))), .inr (.inr (some (9, 50)))], zfC M33)) (b := true) (by decide +kernel) rfl rfl ?_
      obtain ⟨hg39, h⟩ := zgd_inv h
      obtain ⟨r38, M38, hc38, h⟩ := zbd_inv h
      refine zcallV Hy.1 (as := []) (st := [.inr (.inr (some (9, 50)))]) (m8_firstSum_met (zOK_G Hy.1) Hy.2.1 hc38) cw0_198 m8_firstSum_in m8_firstSum_se (by decide) (zhlv Hy.2.1 hg39) rfl (zroom Hy.2.2 ⟨by decide, by decide⟩) rfl (by decide +kernel) ⟨Nat.zero_le _, Nat.zero_le _⟩ ?_
      obtain ⟨M40, hc40, h⟩ := zbv_inv h
      refine zcallV Hy.1 (as := [.inr (.inr (some (9, r38)))]) (st := []) (m9_join_met (zOK_G Hy.1) Hy.2.1 hc40) cw0_202 m9_join_in m9_join_se (by decide) (zhlv Hy.2.1 rfl) rfl (zroom Hy.2.2 ⟨by decide, by decide⟩) rfl (by decide +kernel) ⟨Nat.zero_le _, Nat.zero_le _⟩ ?_
      refine zblq Hy.1 Hy.2.1 [(.ldc 141, 3)] (S' := (141, [(0, .inr (.inr (some (0, 0)))), (1, .inr (.inr (some (8, i1)))), (2, .inr (.inr (some (2, i2))))], [], zfC M40)) (b := true) (by decide +kernel) rfl rfl ?_
      cases h
      exact zret_v Hy.1 Hy.2.2 hE (by decide +kernel)
theorem m0_give_met {l : Launch} {G : zG} (hG : zGok G) (hcn : zgcn G = zcC) {i1 : Nat} {i2 : Nat} {M : cM} {M' : cM} (h : m0_give i1 i2 M = some M') : zMet l G yX0_give cX0_give 3 (none) 2 43 [.inr (.inr (some (0, 0))), .inr (.inr (some (8, i1))), .inr (.inr (some (2, i2)))] (zfC M) (none) (zfC M') :=
  zMet_of hG tbX0_ok rfl (by decide +kernel) (Nat.le_of_ble_eq_true rfl) (fun X _ Z hA hE => m0_give_ok ⟨Z, hcn, hA⟩ hE i1 i2 M h)
abbrev q0_carry : ByteArray × Nat × String × zT := (cX0_carry, 5, RX0, tbX0)
def m0_carry_58 (i2 : Nat) (M : cM) : Option cM := zgd (Nat.blt i2 10 && true) (zgd (Nat.blt i2 10) (zbv (m8_drop i2 (0 : Int32) M) (fun M7 => some M7)))
theorem m0_carry_58_ok {X : zX} {G : zG} (Hy : zHy X G q0_carry zcC 3 65 (none)) {M' : cM} (hE : zEnd X G (none) (zfC M')) (i2 : Nat) (M : cM) (h : m0_carry_58 i2 M = some M') : zGo (X, q0_carry, G) 0 0 (58, [(2, .inr (.inr (some (2, i2))))], [], zfC M) := by
  unfold m0_carry_58 at h
  obtain ⟨hg6, h⟩ := zgd_inv h
  refine zblq Hy.1 Hy.2.1 [(.aload 2, 1), (.getfield 215, 3), (.iconst 0, 1)] (S' := (63, [(2, .inr (.inr (some (2, i2))))], [.inl (0 : Int32), .inr (.inr (some (8, i2)))], zfC M)) (b := Nat.blt i2 10 && true) (by decide +kernel) rfl hg6 ?_
  obtain ⟨hg8, h⟩ := zgd_inv h
  obtain ⟨M7, hc7, h⟩ := zbv_inv h
  refine zcallV Hy.1 (as := [.inl (0 : Int32)]) (st := []) (m8_drop_met (zOK_G Hy.1) Hy.2.1 hc7) cw0_184 m8_drop_in m8_drop_se (by decide) (zhlv Hy.2.1 hg8) rfl (zroom Hy.2.2 ⟨by decide, by decide⟩) rfl (by decide +kernel) ⟨Nat.zero_le _, Nat.zero_le _⟩ ?_
  cases h
  exact zret_v Hy.1 Hy.2.2 hE (by decide +kernel)
def m0_carry (x1 : Int32) (M : cM) : Option cM := zbd (m3_of x1 M) (fun r1 M1 => zgd (Nat.blt r1 10 && true) (zbd (m3_of (cg M1 2 r1 7) M1) (fun r3 M3 => zbd (m0_whyLost r3 x1 M3) (fun r4 M4 => (if r4 = (-1 : Int32) then zgd (Nat.blt r1 10 && true) (zbv (m0_give r1 r3 M4) (fun M10 => m0_carry_58 r1 M10)) else zgd (zin r4 8 && (zin r4 8 && true)) (m0_carry_58 r1 (cs M4 103 0 (nx r4) ((cg M4 103 0 (nx r4)) + (1 : Int32)))))))))
theorem m0_carry_ok {X : zX} {G : zG} (Hy : zHy X G q0_carry zcC 3 65 (none)) {M' : cM} (hE : zEnd X G (none) (zfC M')) (x1 : Int32) (M : cM) (h : m0_carry x1 M = some M') : zGo (X, q0_carry, G) 0 0 (0, [(0, .inr (.inr (some (0, 0)))), (1, .inl x1)], [], zfC M) := by
  unfold m0_carry at h
  refine zblq Hy.1 Hy.2.1 [(.aload 0, 1), (.getfield 0, 3), (.iload 1, 1)] (S' := (5, [(0, .inr (.inr (some (0, 0)))), (1, .inl x1)], [.inl x1, .inr (.inr (some (3, 0)))], zfC M)) (b := true) (by decide +kernel) rfl rfl ?_
  obtain ⟨r1, M1, hc1, h⟩ := zbd_inv h
  refine zcallV Hy.1 (as := [.inl x1]) (st := []) (m3_of_met (zOK_G Hy.1) Hy.2.1 hc1) cw0_52 m3_of_in m3_of_se (by decide) (zhlv Hy.2.1 rfl) rfl (zroom Hy.2.2 ⟨by decide, by decide⟩) rfl (by decide +kernel) ⟨Nat.zero_le _, Nat.zero_le _⟩ ?_
  obtain ⟨hg2, h⟩ := zgd_inv h
  refine zblq Hy.1 Hy.2.1 [(.astore 2, 1), (.aload 0, 1), (.getfield 0, 3), (.aload 2, 1), (.multianewarray 2 7, 3)] (S' := (17, [(0, .inr (.inr (some (0, 0)))), (1, .inl x1), (2, .inr (.inr (some (2, r1))))], [.inl (cg M1 2 r1 7), .inr (.inr (some (3, 0)))], zfC M1)) (b := Nat.blt r1 10 && true) (by decide +kernel) rfl hg2 ?_
  obtain ⟨r3, M3, hc3, h⟩ := zbd_inv h
  refine zcallV Hy.1 (as := [.inl (cg M1 2 r1 7)]) (st := []) (m3_of_met (zOK_G Hy.1) Hy.2.1 hc3) cw0_52 m3_of_in m3_of_se (by decide) (zhlv Hy.2.1 rfl) rfl (zroom Hy.2.2 ⟨by decide, by decide⟩) rfl (by decide +kernel) ⟨Nat.zero_le _, Nat.zero_le _⟩ ?_
  refine zblq Hy.1 Hy.2.1 [(.astore 3, 1), (.aload 0, 1), (.aload 3, 1), (.iload 1, 1)] (S' := (24, [(0, .inr (.inr (some (0, 0)))), (1, .inl x1), (2, .inr (.inr (some (2, r1)))), (3, .inr (.inr (some (2, r3))))], [.inl x1, .inr (.inr (some (2, r3))), .inr (.inr (some (0, 0)))], zfC M3)) (b := true) (by decide +kernel) rfl rfl ?_
  obtain ⟨r4, M4, hc4, h⟩ := zbd_inv h
  refine zcallV Hy.1 (as := [.inr (.inr (some (2, r3))), .inl x1]) (st := []) (m0_whyLost_met (zOK_G Hy.1) Hy.2.1 hc4) cw0_176 m0_whyLost_in m0_whyLost_se (by decide) (zhlv Hy.2.1 rfl) rfl (zroom Hy.2.2 ⟨by decide, by decide⟩) rfl (by decide +kernel) ⟨Nat.zero_le _, Nat.zero_le _⟩ ?_
  refine zblq Hy.1 Hy.2.1 [(.istore 4, 2), (.iload 4, 2), (.iconst (-1), 1)] (S' := (32, [(0, .inr (.inr (some (0, 0)))), (1, .inl x1), (2, .inr (.inr (some (2, r1)))), (3, .inr (.inr (some (2, r3)))), (4, .inl r4)], [.inl (-1 : Int32), .inl r4], zfC M4)) (b := true) (by decide +kernel) rfl rfl ?_
  refine zic_ne Hy.1 (off := 15) (tgt := 47) (by decide +kernel) (by decide) (fun hb11 => ?_) (fun hb11 => ?_)
  · replace h := zite_f h hb11
    obtain ⟨hg5, h⟩ := zgd_inv h
    refine zblq Hy.1 Hy.2.1 [(.aload 0, 1), (.getfield 3, 3), (.iload 4, 2), (.dup2, 1), (.iaload, 1), (.iconst 1, 1), (.iadd, 1), (.iastore, 1)] (S' := (58, [(0, .inr (.inr (some (0, 0)))), (1, .inl x1), (2, .inr (.inr (some (2, r1)))), (3, .inr (.inr (some (2, r3)))), (4, .inl r4)], [], zfC (cs M4 103 0 (nx r4) ((cg M4 103 0 (nx r4)) + (1 : Int32))))) (b := zin r4 8 && (zin r4 8 && true)) (by decide +kernel) rfl hg5 ?_
    refine zGo_keep [2] rfl ?_
    exact m0_carry_58_ok Hy hE r1 (cs M4 103 0 (nx r4) ((cg M4 103 0 (nx r4)) + (1 : Int32))) h
  · replace h := zite_t h hb11
    obtain ⟨hg9, h⟩ := zgd_inv h
    refine zblq Hy.1 Hy.2.1 [(.aload 0, 1), (.aload 2, 1), (.getfield 215, 3), (.aload 3, 1)] (S' := (41, [(0, .inr (.inr (some (0, 0)))), (1, .inl x1), (2, .inr (.inr (some (2, r1)))), (3, .inr (.inr (some (2, r3)))), (4, .inl r4)], [.inr (.inr (some (2, r3))), .inr (.inr (some (8, r1))), .inr (.inr (some (0, 0)))], zfC M4)) (b := Nat.blt r1 10 && true) (by decide +kernel) rfl hg9 ?_
    obtain ⟨M10, hc10, h⟩ := zbv_inv h
    refine zcallV Hy.1 (as := [.inr (.inr (some (8, r1))), .inr (.inr (some (2, r3)))]) (st := []) (m0_give_met (zOK_G Hy.1) Hy.2.1 hc10) cw0_180 m0_give_in m0_give_se (by decide) (zhlv Hy.2.1 rfl) rfl (zroom Hy.2.2 ⟨by decide, by decide⟩) rfl (by decide +kernel) ⟨Nat.zero_le _, Nat.zero_le _⟩ ?_
    refine zblq Hy.1 Hy.2.1 [(.ldc 58, 3)] (S' := (58, [(0, .inr (.inr (some (0, 0)))), (1, .inl x1), (2, .inr (.inr (some (2, r1)))), (3, .inr (.inr (some (2, r3)))), (4, .inl r4)], [], zfC M10)) (b := true) (by decide +kernel) rfl rfl ?_
    refine zGo_keep [2] rfl ?_
    exact m0_carry_58_ok Hy hE r1 M10 h
theorem m0_carry_met {l : Launch} {G : zG} (hG : zGok G) (hcn : zgcn G = zcC) {x1 : Int32} {M : cM} {M' : cM} (h : m0_carry x1 M = some M') : zMet l G yX0_carry cX0_carry 5 (none) 3 65 [.inr (.inr (some (0, 0))), .inl x1] (zfC M) (none) (zfC M') :=
  zMet_of hG tbX0_ok rfl (by decide +kernel) (Nat.le_of_ble_eq_true rfl) (fun X _ Z hA hE => m0_carry_ok ⟨Z, hcn, hA⟩ hE x1 M h)
abbrev q9_clear : ByteArray × Nat × String × zT := (cX9_clear, 1, RX9, tbX9)
def m9_clear (i0 : Nat) (M : cM) : Option cM := zgd ((Nat.blt i0 51 && true) && ((Nat.blt i0 51 && true) && ((Nat.blt i0 51 && true) && ((Nat.blt i0 51 && true) && ((Nat.blt i0 51 && true) && true))))) (some (cs (cs (cs (cs (cs M 9 i0 0 (0 : Int32)) 9 i0 1 (0 : Int32)) 9 i0 2 (0 : Int32)) 9 i0 3 (0 : Int32)) 9 i0 4 (0 : Int32)))
theorem m9_clear_ok {X : zX} {G : zG} (Hy : zHy X G q9_clear zcC 0 0 (none)) {M' : cM} (hE : zEnd X G (none) (zfC M')) (i0 : Nat) (M : cM) (h : m9_clear i0 M = some M') : zGo (X, q9_clear, G) 0 0 (0, [(0, .inr (.inr (some (9, i0))))], [], zfC M) := by
  unfold m9_clear at h
  obtain ⟨hg1, h⟩ := zgd_inv h
  refine zblq Hy.1 Hy.2.1 [(.aload 0, 1), (.iconst 0, 1), (.invokeinterface 9 0, 3), (.aload 0, 1), (.iconst 0, 1), (.invokeinterface 9 1, 3), (.aload 0, 1), (.iconst 0, 1), (.invokeinterface 9 2, 3), (.aload 0, 1), (.iconst 0, 1), (.invokeinterface 9 3, 3), (.aload 0, 1), (.iconst 0, 1), (.invokeinterface 9 4, 3)] (S' := (25, [(0, .inr (.inr (some (9, i0))))], [], zfC (cs (cs (cs (cs (cs M 9 i0 0 (0 : Int32)) 9 i0 1 (0 : Int32)) 9 i0 2 (0 : Int32)) 9 i0 3 (0 : Int32)) 9 i0 4 (0 : Int32)))) (b := (Nat.blt i0 51 && true) && ((Nat.blt i0 51 && true) && ((Nat.blt i0 51 && true) && ((Nat.blt i0 51 && true) && ((Nat.blt i0 51 && true) && true))))) (by decide +kernel) rfl hg1 ?_
  cases h
  exact zret_v Hy.1 Hy.2.2 hE (by decide +kernel)
theorem m9_clear_met {l : Launch} {G : zG} (hG : zGok G) (hcn : zgcn G = zcC) {i0 : Nat} {M : cM} {M' : cM} (h : m9_clear i0 M = some M') : zMet l G yX9_clear cX9_clear 1 (none) 0 0 [.inr (.inr (some (9, i0)))] (zfC M) (none) (zfC M') :=
  zMet_of hG tbX9_ok rfl (by decide +kernel) (Nat.le_of_ble_eq_true rfl) (fun X _ Z hA hE => m9_clear_ok ⟨Z, hcn, hA⟩ hE i0 M h)
abbrev q8_dropSums : ByteArray × Nat × String × zT := (cX8_dropSums, 3, RX8, tbX8)
def m8_dropSums_34 (k4 : Nat → Int32 → Int32 → cM → Option (Int32 × cM)) (i0 : Nat) (x1 : Int32) (x2 : Int32) (M : cM) : Option (Int32 × cM) := k4 i0 x1 (x2 + (-1 : Int32)) M
theorem m8_dropSums_34_ok {X : zX} {G : zG} (Hy : zHy X G q8_dropSums zcC 1 23 (some .int)) {r : Int32} {M' : cM} (hE : zEnd X G (some (.inl r)) (zfC M')) {k4 : Nat → Int32 → Int32 → cM → Option (Int32 × cM)} (hk4 : ∀ (i0 : Nat) (x1 : Int32) (x2 : Int32) (M : cM), k4 i0 x1 x2 M = some (r, M') → zGo (X, q8_dropSums, G) 0 0 (4, [(0, .inr (.inr (some (8, i0)))), (1, .inl x1), (2, .inl x2)], [], zfC M)) (i0 : Nat) (x1 : Int32) (x2 : Int32) (M : cM) (h : m8_dropSums_34 k4 i0 x1 x2 M = some (r, M')) : zGo (X, q8_dropSums, G) 0 0 (34, [(0, .inr (.inr (some (8, i0)))), (1, .inl x1), (2, .inl x2)], [], zfC M) := by
  unfold m8_dropSums_34 at h
  refine zblq Hy.1 Hy.2.1 [(.iinc 2 (-1), 3), (.ldc 4, 3)] (S' := (4, [(0, .inr (.inr (some (8, i0)))), (1, .inl x1), (2, .inl (x2 + (-1 : Int32)))], [], zfC M)) (b := true) (by decide +kernel) rfl rfl ?_
  refine zGo_keep [0, 1, 2] rfl ?_
  exact hk4 i0 x1 (x2 + (-1 : Int32)) M h
def m8_dropSums_4 : Nat → Nat → Int32 → Int32 → cM → Option (Int32 × cM)
  | 0, _, _, _, _ => none
  | n + 1, i0, x1, x2, M => (if x2 < 0 then some (x1, M) else zgd (Nat.blt i0 10 && true) ((if (cg M 8 i0 2) ≤ x2 then m8_dropSums_34 (m8_dropSums_4 n) i0 x1 x2 M else zgd (Nat.blt i0 10 && ((Nat.blt i0 10 && zin x2 4) && true)) ((if (cg M 900 i0 (nx x2)) = (-1 : Int32) then zgd (Nat.blt i0 10) (zbv (m8_drop i0 x2 M) (fun M3 => m8_dropSums_34 (m8_dropSums_4 n) i0 (x1 + (1 : Int32)) x2 M3)) else m8_dropSums_34 (m8_dropSums_4 n) i0 x1 x2 M)))))
theorem m8_dropSums_4_ok {X : zX} {G : zG} (Hy : zHy X G q8_dropSums zcC 1 23 (some .int)) {r : Int32} {M' : cM} (hE : zEnd X G (some (.inl r)) (zfC M')) : ∀ (n : Nat) (i0 : Nat) (x1 : Int32) (x2 : Int32) (M : cM), m8_dropSums_4 n i0 x1 x2 M = some (r, M') → zGo (X, q8_dropSums, G) 0 0 (4, [(0, .inr (.inr (some (8, i0)))), (1, .inl x1), (2, .inl x2)], [], zfC M) := by
  intro n
  induction n with
  | zero => intro i0 x1 x2 M h; cases h
  | succ n ih =>
    intro i0 x1 x2 M h
    unfold m8_dropSums_4 at h
    refine zblq Hy.1 Hy.2.1 [(.iload 2, 1)] (S' := (5, [(0, .inr (.inr (some (8, i0)))), (1, .inl x1), (2, .inl x2)], [.inl x2], zfC M)) (b := true) (by decide +kernel) rfl rfl ?_
    refine zif_lt Hy.1 (off := 35) (tgt := 40) (by decide +kernel) (by decide) (fun hb7 => ?_) (fun hb7 => ?_)
    · replace h := zite_t h hb7
      refine zblq Hy.1 Hy.2.1 [(.iload 1, 1)] (S' := (41, [(0, .inr (.inr (some (8, i0)))), (1, .inl x1), (2, .inl x2)], [.inl x1], zfC M)) (b := true) (by decide +kernel) rfl rfl ?_
      cases h
      exact zret_i Hy.1 Hy.2.2 hE (by decide +kernel)
    · replace h := zite_f h hb7
      obtain ⟨hg1, h⟩ := zgd_inv h
      refine zblq Hy.1 Hy.2.1 [(.iload 2, 1), (.aload 0, 1), (.multianewarray 8 2, 3)] (S' := (13, [(0, .inr (.inr (some (8, i0)))), (1, .inl x1), (2, .inl x2)], [.inl (cg M 8 i0 2), .inl x2], zfC M)) (b := Nat.blt i0 10 && true) (by decide +kernel) rfl hg1 ?_
      refine zic_ge Hy.1 (off := 21) (tgt := 34) (by decide +kernel) (by decide) (fun hb6 => ?_) (fun hb6 => ?_)
      · replace h := zite_t h hb6
        refine zGo_keep [0, 1, 2] rfl ?_
        exact m8_dropSums_34_ok Hy hE ih i0 x1 x2 M h
      · replace h := zite_f h hb6
        obtain ⟨hg2, h⟩ := zgd_inv h
        refine zblq Hy.1 Hy.2.1 [(.aload 0, 1), (.getfield 800, 3), (.iload 2, 1), (.iaload, 1), (.iconst (-1), 1)] (S' := (23, [(0, .inr (.inr (some (8, i0)))), (1, .inl x1), (2, .inl x2)], [.inl (-1 : Int32), .inl (cg M 900 i0 (nx x2))], zfC M)) (b := Nat.blt i0 10 && ((Nat.blt i0 10 && zin x2 4) && true)) (by decide +kernel) rfl hg2 ?_
        refine zic_ne Hy.1 (off := 11) (tgt := 34) (by decide +kernel) (by decide) (fun hb5 => ?_) (fun hb5 => ?_)
        · replace h := zite_f h hb5
          refine zGo_keep [0, 1, 2] rfl ?_
          exact m8_dropSums_34_ok Hy hE ih i0 x1 x2 M h
        · replace h := zite_t h hb5
          refine zblq Hy.1 Hy.2.1 [(.aload 0, 1), (.iload 2, 1)] (S' := (28, [(0, .inr (.inr (some (8, i0)))), (1, .inl x1), (2, .inl x2)], [.inl x2, .inr (.inr (some (8, i0)))], zfC M)) (b := true) (by decide +kernel) rfl rfl ?_
          obtain ⟨hg4, h⟩ := zgd_inv h
          obtain ⟨M3, hc3, h⟩ := zbv_inv h
          refine zcallV Hy.1 (as := [.inl x2]) (st := []) (m8_drop_met (zOK_G Hy.1) Hy.2.1 hc3) cw8_32 m8_drop_in m8_drop_se (by decide) (zhlv Hy.2.1 hg4) rfl (zroom Hy.2.2 ⟨by decide, by decide⟩) rfl (by decide +kernel) ⟨Nat.zero_le _, Nat.zero_le _⟩ ?_
          refine zblq Hy.1 Hy.2.1 [(.iinc 1 1, 3)] (S' := (34, [(0, .inr (.inr (some (8, i0)))), (1, .inl (x1 + (1 : Int32))), (2, .inl x2)], [], zfC M3)) (b := true) (by decide +kernel) rfl rfl ?_
          refine zGo_keep [0, 1, 2] rfl ?_
          exact m8_dropSums_34_ok Hy hE ih i0 (x1 + (1 : Int32)) x2 M3 h
def m8_dropSums (i0 : Nat) (M : cM) : Option (Int32 × cM) := m8_dropSums_4 zfu i0 (0 : Int32) (3 : Int32) M
theorem m8_dropSums_ok {X : zX} {G : zG} (Hy : zHy X G q8_dropSums zcC 1 23 (some .int)) {r : Int32} {M' : cM} (hE : zEnd X G (some (.inl r)) (zfC M')) (i0 : Nat) (M : cM) (h : m8_dropSums i0 M = some (r, M')) : zGo (X, q8_dropSums, G) 0 0 (0, [(0, .inr (.inr (some (8, i0))))], [], zfC M) := by
  unfold m8_dropSums at h
  refine zblq Hy.1 Hy.2.1 [(.iconst 0, 1), (.istore 1, 1), (.iconst 3, 1), (.istore 2, 1)] (S' := (4, [(0, .inr (.inr (some (8, i0)))), (1, .inl (0 : Int32)), (2, .inl (3 : Int32))], [], zfC M)) (b := true) (by decide +kernel) rfl rfl ?_
  refine zGo_keep [0, 1, 2] rfl ?_
  exact m8_dropSums_4_ok Hy hE zfu i0 (0 : Int32) (3 : Int32) M h
theorem m8_dropSums_met {l : Launch} {G : zG} (hG : zGok G) (hcn : zgcn G = zcC) {i0 : Nat} {M : cM} {r : Int32} {M' : cM} (h : m8_dropSums i0 M = some (r, M')) : zMet l G yX8_dropSums cX8_dropSums 3 (some .int) 1 23 [.inr (.inr (some (8, i0)))] (zfC M) (some (.inl r)) (zfC M') :=
  zMet_of hG tbX8_ok rfl (by decide +kernel) (Nat.le_of_ble_eq_true rfl) (fun X _ Z hA hE => m8_dropSums_ok ⟨Z, hcn, hA⟩ hE i0 M h)
abbrev q2_forgetSums : ByteArray × Nat × String × zT := (cX2_forgetSums, 1, RX2, tbX2)
def m2_forgetSums (i0 : Nat) (M : cM) : Option (Int32 × cM) := zgd (Nat.blt i0 10 && true) (zgd (Nat.blt i0 51) (zbv (m9_clear i0 M) (fun M2 => zgd ((Nat.blt i0 10 && true) && (Nat.blt i0 10 && true)) (zgd (Nat.blt i0 10) (zbd (m8_dropSums i0 (cs M2 2 i0 14 (0 : Int32))) (fun r5 M5 => some (r5, M5)))))))
theorem m2_forgetSums_ok {X : zX} {G : zG} (Hy : zHy X G q2_forgetSums zcC 2 45 (some .int)) {r : Int32} {M' : cM} (hE : zEnd X G (some (.inl r)) (zfC M')) (i0 : Nat) (M : cM) (h : m2_forgetSums i0 M = some (r, M')) : zGo (X, q2_forgetSums, G) 0 0 (0, [(0, .inr (.inr (some (2, i0))))], [], zfC M) := by
  unfold m2_forgetSums at h
  obtain ⟨hg1, h⟩ := zgd_inv h
  refine zblq Hy.1 Hy.2.1 [(.aload 0, 1), (.getfield 213, 3)] (S' := (4, [(0, .inr (.inr (some (2, i0))))], [.inr (.inr (some (9, i0)))], zfC M)) (b := Nat.blt i0 10 && true) (by decide +kernel) rfl hg1 ?_
  obtain ⟨hg3, h⟩ := zgd_inv h
  obtain ⟨M2, hc2, h⟩ := zbv_inv h
  refine zcallV Hy.1 (as := []) (st := []) (m9_clear_met (zOK_G Hy.1) Hy.2.1 hc2) cw2_102 m9_clear_in m9_clear_se (by decide) (zhlv Hy.2.1 hg3) rfl (zroom Hy.2.2 ⟨by decide, by decide⟩) rfl (by decide +kernel) ⟨Nat.zero_le _, Nat.zero_le _⟩ ?_
  obtain ⟨hg4, h⟩ := zgd_inv h
  refine zblq Hy.1 Hy.2.1 [(.aload 0, 1), (.iconst 0, 1), (.invokedynamic 214, 3), (.aload 0, 1), (.getfield 215, 3)] (S' := (16, [(0, .inr (.inr (some (2, i0))))], [.inr (.inr (some (8, i0)))], zfC (cs M2 2 i0 14 (0 : Int32)))) (b := (Nat.blt i0 10 && true) && (Nat.blt i0 10 && true)) (by decide +kernel) rfl hg4 ?_
  obtain ⟨hg6, h⟩ := zgd_inv h
  obtain ⟨r5, M5, hc5, h⟩ := zbd_inv h
  refine zcallV Hy.1 (as := []) (st := []) (m8_dropSums_met (zOK_G Hy.1) Hy.2.1 hc5) cw2_105 m8_dropSums_in m8_dropSums_se (by decide) (zhlv Hy.2.1 hg6) rfl (zroom Hy.2.2 ⟨by decide, by decide⟩) rfl (by decide +kernel) ⟨Nat.zero_le _, Nat.zero_le _⟩ ?_
  cases h
  exact zret_i Hy.1 Hy.2.2 hE (by decide +kernel)
theorem m2_forgetSums_met {l : Launch} {G : zG} (hG : zGok G) (hcn : zgcn G = zcC) {i0 : Nat} {M : cM} {r : Int32} {M' : cM} (h : m2_forgetSums i0 M = some (r, M')) : zMet l G yX2_forgetSums cX2_forgetSums 1 (some .int) 2 45 [.inr (.inr (some (2, i0)))] (zfC M) (some (.inl r)) (zfC M') :=
  zMet_of hG tbX2_ok rfl (by decide +kernel) (Nat.le_of_ble_eq_true rfl) (fun X _ Z hA hE => m2_forgetSums_ok ⟨Z, hcn, hA⟩ hE i0 M h)
abbrev q2_loudAt : ByteArray × Nat × String × zT := (cX2_loudAt, 2, RX2, tbX2)
def m2_loudAt (i0 : Nat) (x1 : Int32) (M : cM) : Option (Int32 × cM) := (if x1 < 0 then some ((16 : Int32), M) else zgd (Nat.blt i0 10 && (Nat.blt i0 10 && true)) ((if x1 < (24 : Int32) then zgd (Nat.blt i0 10 && ((Nat.blt i0 10 && zin x1 24) && true)) (some (cg M 312 i0 (nx x1), M)) else some ((16 : Int32), M))))
theorem m2_loudAt_ok {X : zX} {G : zG} (Hy : zHy X G q2_loudAt zcC 0 0 (some .int)) {r : Int32} {M' : cM} (hE : zEnd X G (some (.inl r)) (zfC M')) (i0 : Nat) (x1 : Int32) (M : cM) (h : m2_loudAt i0 x1 M = some (r, M')) : zGo (X, q2_loudAt, G) 0 0 (0, [(0, .inr (.inr (some (2, i0)))), (1, .inl x1)], [], zfC M) := by
  unfold m2_loudAt at h
  refine zblq Hy.1 Hy.2.1 [(.iload 1, 1)] (S' := (1, [(0, .inr (.inr (some (2, i0)))), (1, .inl x1)], [.inl x1], zfC M)) (b := true) (by decide +kernel) rfl rfl ?_
  refine zif_lt Hy.1 (off := 12) (tgt := 13) (by decide +kernel) (by decide) (fun hb4 => ?_) (fun hb4 => ?_)
  · replace h := zite_t h hb4
    refine zblq Hy.1 Hy.2.1 [(.iconst 16, 2)] (S' := (15, [(0, .inr (.inr (some (2, i0)))), (1, .inl x1)], [.inl (16 : Int32)], zfC M)) (b := true) (by decide +kernel) rfl rfl ?_
    cases h
    exact zret_i Hy.1 Hy.2.2 hE (by decide +kernel)
  · replace h := zite_f h hb4
    obtain ⟨hg1, h⟩ := zgd_inv h
    refine zblq Hy.1 Hy.2.1 [(.iload 1, 1), (.aload 0, 1), (.getfield 212, 3), (.arraylength, 1)] (S' := (10, [(0, .inr (.inr (some (2, i0)))), (1, .inl x1)], [.inl (24 : Int32), .inl x1], zfC M)) (b := Nat.blt i0 10 && (Nat.blt i0 10 && true)) (by decide +kernel) rfl hg1 ?_
    refine zic_lt Hy.1 (off := 6) (tgt := 16) (by decide +kernel) (by decide) (fun hb3 => ?_) (fun hb3 => ?_)
    · replace h := zite_t h hb3
      obtain ⟨hg2, h⟩ := zgd_inv h
      refine zblq Hy.1 Hy.2.1 [(.aload 0, 1), (.getfield 212, 3), (.iload 1, 1), (.iaload, 1)] (S' := (22, [(0, .inr (.inr (some (2, i0)))), (1, .inl x1)], [.inl (cg M 312 i0 (nx x1))], zfC M)) (b := Nat.blt i0 10 && ((Nat.blt i0 10 && zin x1 24) && true)) (by decide +kernel) rfl hg2 ?_
      cases h
      exact zret_i Hy.1 Hy.2.2 hE (by decide +kernel)
    · replace h := zite_f h hb3
      refine zblq Hy.1 Hy.2.1 [(.iconst 16, 2)] (S' := (15, [(0, .inr (.inr (some (2, i0)))), (1, .inl x1)], [.inl (16 : Int32)], zfC M)) (b := true) (by decide +kernel) rfl rfl ?_
      cases h
      exact zret_i Hy.1 Hy.2.2 hE (by decide +kernel)
theorem m2_loudAt_met {l : Launch} {G : zG} (hG : zGok G) (hcn : zgcn G = zcC) {i0 : Nat} {x1 : Int32} {M : cM} {r : Int32} {M' : cM} (h : m2_loudAt i0 x1 M = some (r, M')) : zMet l G yX2_loudAt cX2_loudAt 2 (some .int) 0 0 [.inr (.inr (some (2, i0))), .inl x1] (zfC M) (some (.inl r)) (zfC M') :=
  zMet_of hG tbX2_ok rfl (by decide +kernel) (Nat.le_of_ble_eq_true rfl) (fun X _ Z hA hE => m2_loudAt_ok ⟨Z, hcn, hA⟩ hE i0 x1 M h)
abbrev q7_isMetBy : ByteArray × Nat × String × zT := (cX7_isMetBy, 5, RX7, tbX7)
def m7_isMetBy_68 (k2 : Nat → Int32 → Int32 → Int32 → cM → Option (Int32 × cM)) (i0 : Nat) (x1 : Int32) (x2 : Int32) (x3 : Int32) (M : cM) : Option (Int32 × cM) := k2 i0 x1 x2 (x3 + (1 : Int32)) M
theorem m7_isMetBy_68_ok {X : zX} {G : zG} (Hy : zHy X G q7_isMetBy zcC 0 0 (some .boolean)) {r : Int32} {M' : cM} (hE : zEnd X G (some (.inl r)) (zfC M')) {k2 : Nat → Int32 → Int32 → Int32 → cM → Option (Int32 × cM)} (hk2 : ∀ (i0 : Nat) (x1 : Int32) (x2 : Int32) (x3 : Int32) (M : cM), k2 i0 x1 x2 x3 M = some (r, M') → zGo (X, q7_isMetBy, G) 0 0 (2, [(0, .inr (.inr (some (7, i0)))), (1, .inl x1), (2, .inl x2), (3, .inl x3)], [], zfC M)) (i0 : Nat) (x1 : Int32) (x2 : Int32) (x3 : Int32) (M : cM) (h : m7_isMetBy_68 k2 i0 x1 x2 x3 M = some (r, M')) : zGo (X, q7_isMetBy, G) 0 0 (68, [(0, .inr (.inr (some (7, i0)))), (1, .inl x1), (2, .inl x2), (3, .inl x3)], [], zfC M) := by
  unfold m7_isMetBy_68 at h
  refine zblq Hy.1 Hy.2.1 [(.iinc 3 1, 3), (.ldc 2, 3)] (S' := (2, [(0, .inr (.inr (some (7, i0)))), (1, .inl x1), (2, .inl x2), (3, .inl (x3 + (1 : Int32)))], [], zfC M)) (b := true) (by decide +kernel) rfl rfl ?_
  refine zGo_keep [0, 1, 2, 3] rfl ?_
  exact hk2 i0 x1 x2 (x3 + (1 : Int32)) M h
def m7_isMetBy_30 (k2 : Nat → Int32 → Int32 → Int32 → cM → Option (Int32 × cM)) (i0 : Nat) (x1 : Int32) (x2 : Int32) (x3 : Int32) (t0 : Int32) (M : cM) : Option (Int32 × cM) := zgd (Nat.blt i0 2 && ((Nat.blt i0 2 && zin x3 8) && true)) ((if (cg M 804 i0 (nx x3)) = 0 then zgd (Nat.blt i0 2 && ((Nat.blt i0 2 && zin x3 8) && true)) ((if t0 < (cg M 805 i0 (nx x3)) then m7_isMetBy_68 k2 i0 x1 x2 x3 M else some ((0 : Int32), M))) else zgd (Nat.blt i0 2 && ((Nat.blt i0 2 && zin x3 8) && true)) ((if (cg M 805 i0 (nx x3)) < t0 then m7_isMetBy_68 k2 i0 x1 x2 x3 M else some ((0 : Int32), M)))))
theorem m7_isMetBy_30_ok {X : zX} {G : zG} (Hy : zHy X G q7_isMetBy zcC 0 0 (some .boolean)) {r : Int32} {M' : cM} (hE : zEnd X G (some (.inl r)) (zfC M')) {k2 : Nat → Int32 → Int32 → Int32 → cM → Option (Int32 × cM)} (hk2 : ∀ (i0 : Nat) (x1 : Int32) (x2 : Int32) (x3 : Int32) (M : cM), k2 i0 x1 x2 x3 M = some (r, M') → zGo (X, q7_isMetBy, G) 0 0 (2, [(0, .inr (.inr (some (7, i0)))), (1, .inl x1), (2, .inl x2), (3, .inl x3)], [], zfC M)) (i0 : Nat) (x1 : Int32) (x2 : Int32) (x3 : Int32) (t0 : Int32) (M : cM) (h : m7_isMetBy_30 k2 i0 x1 x2 x3 t0 M = some (r, M')) : zGo (X, q7_isMetBy, G) 0 0 (30, [(0, .inr (.inr (some (7, i0)))), (1, .inl x1), (2, .inl x2), (3, .inl x3)], [.inl t0], zfC M) := by
  unfold m7_isMetBy_30 at h
  obtain ⟨hg3, h⟩ := zgd_inv h
  refine zblq Hy.1 Hy.2.1 [(.istore 4, 2), (.aload 0, 1), (.getfield 704, 3), (.iload 3, 1), (.baload, 1)] (S' := (38, [(0, .inr (.inr (some (7, i0)))), (1, .inl x1), (2, .inl x2), (3, .inl x3), (4, .inl t0)], [.inl (cg M 804 i0 (nx x3))], zfC M)) (b := Nat.blt i0 2 && ((Nat.blt i0 2 && zin x3 8) && true)) (by decide +kernel) rfl hg3 ?_
  refine zif_eq Hy.1 (off := 17) (tgt := 55) (by decide +kernel) (by decide) (fun hb8 => ?_) (fun hb8 => ?_)
  · replace h := zite_t h hb8
    obtain ⟨hg4, h⟩ := zgd_inv h
    refine zblq Hy.1 Hy.2.1 [(.iload 4, 2), (.aload 0, 1), (.getfield 705, 3), (.iload 3, 1), (.iaload, 1)] (S' := (63, [(0, .inr (.inr (some (7, i0)))), (1, .inl x1), (2, .inl x2), (3, .inl x3), (4, .inl t0)], [.inl (cg M 805 i0 (nx x3)), .inl t0], zfC M)) (b := Nat.blt i0 2 && ((Nat.blt i0 2 && zin x3 8) && true)) (by decide +kernel) rfl hg4 ?_
    refine zic_lt Hy.1 (off := 5) (tgt := 68) (by decide +kernel) (by decide) (fun hb5 => ?_) (fun hb5 => ?_)
    · replace h := zite_t h hb5
      refine zGo_keep [0, 1, 2, 3] rfl ?_
      exact m7_isMetBy_68_ok Hy hE hk2 i0 x1 x2 x3 M h
    · replace h := zite_f h hb5
      refine zblq Hy.1 Hy.2.1 [(.iconst 0, 1)] (S' := (67, [(0, .inr (.inr (some (7, i0)))), (1, .inl x1), (2, .inl x2), (3, .inl x3), (4, .inl t0)], [.inl (0 : Int32)], zfC M)) (b := true) (by decide +kernel) rfl rfl ?_
      cases h
      exact zret_z Hy.1 Hy.2.2 (by decide) hE (by decide +kernel)
  · replace h := zite_f h hb8
    obtain ⟨hg6, h⟩ := zgd_inv h
    refine zblq Hy.1 Hy.2.1 [(.iload 4, 2), (.aload 0, 1), (.getfield 705, 3), (.iload 3, 1), (.iaload, 1)] (S' := (49, [(0, .inr (.inr (some (7, i0)))), (1, .inl x1), (2, .inl x2), (3, .inl x3), (4, .inl t0)], [.inl (cg M 805 i0 (nx x3)), .inl t0], zfC M)) (b := Nat.blt i0 2 && ((Nat.blt i0 2 && zin x3 8) && true)) (by decide +kernel) rfl hg6 ?_
    refine zic_gt Hy.1 (off := 19) (tgt := 68) (by decide +kernel) (by decide) (fun hb7 => ?_) (fun hb7 => ?_)
    · replace h := zite_t h hb7
      refine zGo_keep [0, 1, 2, 3] rfl ?_
      exact m7_isMetBy_68_ok Hy hE hk2 i0 x1 x2 x3 M h
    · replace h := zite_f h hb7
      refine zblq Hy.1 Hy.2.1 [(.ldc 66, 3), (.iconst 0, 1)] (S' := (67, [(0, .inr (.inr (some (7, i0)))), (1, .inl x1), (2, .inl x2), (3, .inl x3), (4, .inl t0)], [.inl (0 : Int32)], zfC M)) (b := true) (by decide +kernel) rfl rfl ?_
      cases h
      exact zret_z Hy.1 Hy.2.2 (by decide) hE (by decide +kernel)
def m7_isMetBy_2 : Nat → Nat → Int32 → Int32 → Int32 → cM → Option (Int32 × cM)
  | 0, _, _, _, _, _ => none
  | n + 1, i0, x1, x2, x3, M => zgd (Nat.blt i0 2 && true) ((if (cg M 7 i0 2) ≤ x3 then some ((1 : Int32), M) else (if (8 : Int32) ≤ x3 then some ((1 : Int32), M) else zgd (Nat.blt i0 2 && ((Nat.blt i0 2 && zin x3 8) && true)) ((if (cg M 803 i0 (nx x3)) = 0 then m7_isMetBy_30 (m7_isMetBy_2 n) i0 x1 x2 x3 x1 M else m7_isMetBy_30 (m7_isMetBy_2 n) i0 x1 x2 x3 x2 M)))))
theorem m7_isMetBy_2_ok {X : zX} {G : zG} (Hy : zHy X G q7_isMetBy zcC 0 0 (some .boolean)) {r : Int32} {M' : cM} (hE : zEnd X G (some (.inl r)) (zfC M')) : ∀ (n : Nat) (i0 : Nat) (x1 : Int32) (x2 : Int32) (x3 : Int32) (M : cM), m7_isMetBy_2 n i0 x1 x2 x3 M = some (r, M') → zGo (X, q7_isMetBy, G) 0 0 (2, [(0, .inr (.inr (some (7, i0)))), (1, .inl x1), (2, .inl x2), (3, .inl x3)], [], zfC M) := by
  intro n
  induction n with
  | zero => intro i0 x1 x2 x3 M h; cases h
  | succ n ih =>
    intro i0 x1 x2 x3 M h
    unfold m7_isMetBy_2 at h
    obtain ⟨hg1, h⟩ := zgd_inv h
    refine zblq Hy.1 Hy.2.1 [(.iload 3, 1), (.aload 0, 1), (.multianewarray 7 2, 3)] (S' := (7, [(0, .inr (.inr (some (7, i0)))), (1, .inl x1), (2, .inl x2), (3, .inl x3)], [.inl (cg M 7 i0 2), .inl x3], zfC M)) (b := Nat.blt i0 2 && true) (by decide +kernel) rfl hg1 ?_
    refine zic_ge Hy.1 (off := 67) (tgt := 74) (by decide +kernel) (by decide) (fun hb11 => ?_) (fun hb11 => ?_)
    · replace h := zite_t h hb11
      refine zblq Hy.1 Hy.2.1 [(.iconst 1, 1)] (S' := (75, [(0, .inr (.inr (some (7, i0)))), (1, .inl x1), (2, .inl x2), (3, .inl x3)], [.inl (1 : Int32)], zfC M)) (b := true) (by decide +kernel) rfl rfl ?_
      cases h
      exact zret_z Hy.1 Hy.2.2 (by decide) hE (by decide +kernel)
    · replace h := zite_f h hb11
      refine zblq Hy.1 Hy.2.1 [(.iload 3, 1), (.iconst 8, 2)] (S' := (13, [(0, .inr (.inr (some (7, i0)))), (1, .inl x1), (2, .inl x2), (3, .inl x3)], [.inl (8 : Int32), .inl x3], zfC M)) (b := true) (by decide +kernel) rfl rfl ?_
      refine zic_ge Hy.1 (off := 61) (tgt := 74) (by decide +kernel) (by decide) (fun hb10 => ?_) (fun hb10 => ?_)
      · replace h := zite_t h hb10
        refine zblq Hy.1 Hy.2.1 [(.iconst 1, 1)] (S' := (75, [(0, .inr (.inr (some (7, i0)))), (1, .inl x1), (2, .inl x2), (3, .inl x3)], [.inl (1 : Int32)], zfC M)) (b := true) (by decide +kernel) rfl rfl ?_
        cases h
        exact zret_z Hy.1 Hy.2.2 (by decide) hE (by decide +kernel)
      · replace h := zite_f h hb10
        obtain ⟨hg2, h⟩ := zgd_inv h
        refine zblq Hy.1 Hy.2.1 [(.aload 0, 1), (.getfield 703, 3), (.iload 3, 1), (.baload, 1)] (S' := (22, [(0, .inr (.inr (some (7, i0)))), (1, .inl x1), (2, .inl x2), (3, .inl x3)], [.inl (cg M 803 i0 (nx x3))], zfC M)) (b := Nat.blt i0 2 && ((Nat.blt i0 2 && zin x3 8) && true)) (by decide +kernel) rfl hg2 ?_
        refine zif_eq Hy.1 (off := 7) (tgt := 29) (by decide +kernel) (by decide) (fun hb9 => ?_) (fun hb9 => ?_)
        · replace h := zite_t h hb9
          refine zblq Hy.1 Hy.2.1 [(.iload 1, 1)] (S' := (30, [(0, .inr (.inr (some (7, i0)))), (1, .inl x1), (2, .inl x2), (3, .inl x3)], [.inl x1], zfC M)) (b := true) (by decide +kernel) rfl rfl ?_
          refine zGo_keep [0, 1, 2, 3] rfl ?_
          exact m7_isMetBy_30_ok Hy hE ih i0 x1 x2 x3 x1 M h
        · replace h := zite_f h hb9
          refine zblq Hy.1 Hy.2.1 [(.iload 2, 1), (.ldc 30, 3)] (S' := (30, [(0, .inr (.inr (some (7, i0)))), (1, .inl x1), (2, .inl x2), (3, .inl x3)], [.inl x2], zfC M)) (b := true) (by decide +kernel) rfl rfl ?_
          refine zGo_keep [0, 1, 2, 3] rfl ?_
          exact m7_isMetBy_30_ok Hy hE ih i0 x1 x2 x3 x2 M h
def m7_isMetBy (i0 : Nat) (x1 : Int32) (x2 : Int32) (M : cM) : Option (Int32 × cM) := m7_isMetBy_2 zfu i0 x1 x2 (0 : Int32) M
theorem m7_isMetBy_ok {X : zX} {G : zG} (Hy : zHy X G q7_isMetBy zcC 0 0 (some .boolean)) {r : Int32} {M' : cM} (hE : zEnd X G (some (.inl r)) (zfC M')) (i0 : Nat) (x1 : Int32) (x2 : Int32) (M : cM) (h : m7_isMetBy i0 x1 x2 M = some (r, M')) : zGo (X, q7_isMetBy, G) 0 0 (0, [(0, .inr (.inr (some (7, i0)))), (1, .inl x1), (2, .inl x2)], [], zfC M) := by
  unfold m7_isMetBy at h
  refine zblq Hy.1 Hy.2.1 [(.iconst 0, 1), (.istore 3, 1)] (S' := (2, [(0, .inr (.inr (some (7, i0)))), (1, .inl x1), (2, .inl x2), (3, .inl (0 : Int32))], [], zfC M)) (b := true) (by decide +kernel) rfl rfl ?_
  refine zGo_keep [0, 1, 2, 3] rfl ?_
  exact m7_isMetBy_2_ok Hy hE zfu i0 x1 x2 (0 : Int32) M h
theorem m7_isMetBy_met {l : Launch} {G : zG} (hG : zGok G) (hcn : zgcn G = zcC) {i0 : Nat} {x1 : Int32} {x2 : Int32} {M : cM} {r : Int32} {M' : cM} (h : m7_isMetBy i0 x1 x2 M = some (r, M')) : zMet l G yX7_isMetBy cX7_isMetBy 5 (some .boolean) 0 0 [.inr (.inr (some (7, i0))), .inl x1, .inl x2] (zfC M) (some (.inl r)) (zfC M') :=
  zMet_of hG tbX7_ok rfl (by decide +kernel) (Nat.le_of_ble_eq_true rfl) (fun X _ Z hA hE => m7_isMetBy_ok ⟨Z, hcn, hA⟩ hE i0 x1 x2 M h)
abbrev q9_start : ByteArray × Nat × String × zT := (cX9_start, 3, RX9, tbX9)
def m9_start (i0 : Nat) (x1 : Int32) (x2 : Int32) (M : cM) : Option cM := zgd ((Nat.blt i0 51 && true) && ((Nat.blt i0 51 && true) && ((Nat.blt i0 51 && true) && ((Nat.blt i0 51 && true) && ((Nat.blt i0 51 && true) && true))))) (some (cs (cs (cs (cs (cs M 9 i0 0 x1) 9 i0 1 x1) 9 i0 2 (1 : Int32)) 9 i0 3 x1) 9 i0 4 (zshl (1 : Int32) x2)))
theorem m9_start_ok {X : zX} {G : zG} (Hy : zHy X G q9_start zcC 0 0 (none)) {M' : cM} (hE : zEnd X G (none) (zfC M')) (i0 : Nat) (x1 : Int32) (x2 : Int32) (M : cM) (h : m9_start i0 x1 x2 M = some M') : zGo (X, q9_start, G) 0 0 (0, [(0, .inr (.inr (some (9, i0)))), (1, .inl x1), (2, .inl x2)], [], zfC M) := by
  unfold m9_start at h
  obtain ⟨hg1, h⟩ := zgd_inv h
  refine zblq Hy.1 Hy.2.1 [(.aload 0, 1), (.iload 1, 1), (.invokeinterface 9 0, 3), (.aload 0, 1), (.iload 1, 1), (.invokeinterface 9 1, 3), (.aload 0, 1), (.iconst 1, 1), (.invokeinterface 9 2, 3), (.aload 0, 1), (.iload 1, 1), (.invokeinterface 9 3, 3), (.aload 0, 1), (.iconst 1, 1), (.iload 2, 1), (.ishl, 1), (.invokeinterface 9 4, 3)] (S' := (27, [(0, .inr (.inr (some (9, i0)))), (1, .inl x1), (2, .inl x2)], [], zfC (cs (cs (cs (cs (cs M 9 i0 0 x1) 9 i0 1 x1) 9 i0 2 (1 : Int32)) 9 i0 3 x1) 9 i0 4 (zshl (1 : Int32) x2)))) (b := (Nat.blt i0 51 && true) && ((Nat.blt i0 51 && true) && ((Nat.blt i0 51 && true) && ((Nat.blt i0 51 && true) && ((Nat.blt i0 51 && true) && true))))) (by decide +kernel) rfl hg1 ?_
  cases h
  exact zret_v Hy.1 Hy.2.2 hE (by decide +kernel)
theorem m9_start_met {l : Launch} {G : zG} (hG : zGok G) (hcn : zgcn G = zcC) {i0 : Nat} {x1 : Int32} {x2 : Int32} {M : cM} {M' : cM} (h : m9_start i0 x1 x2 M = some M') : zMet l G yX9_start cX9_start 3 (none) 0 0 [.inr (.inr (some (9, i0))), .inl x1, .inl x2] (zfC M) (none) (zfC M') :=
  zMet_of hG tbX9_ok rfl (by decide +kernel) (Nat.le_of_ble_eq_true rfl) (fun X _ Z hA hE => m9_start_ok ⟨Z, hcn, hA⟩ hE i0 x1 x2 M h)
abbrev q0_startSum : ByteArray × Nat × String × zT := (cX0_startSum, 5, RX0, tbX0)
def m0_startSum_73 (i1 : Nat) (x3 : Int32) (j0 : Nat) (M : cM) : Option cM := zgd (Nat.blt i1 10 && true) (zgd (Nat.blt j0 51) (zbv (m9_start j0 x3 (cg M 2 i1 0) M) (fun M11 => some M11)))
theorem m0_startSum_73_ok {X : zX} {G : zG} (Hy : zHy X G q0_startSum zcC 1 24 (none)) {M' : cM} (hE : zEnd X G (none) (zfC M')) (i1 : Nat) (x3 : Int32) (j0 : Nat) (M : cM) (h : m0_startSum_73 i1 x3 j0 M = some M') : zGo (X, q0_startSum, G) 0 0 (73, [(1, .inr (.inr (some (2, i1)))), (3, .inl x3)], [.inr (.inr (some (9, j0)))], zfC M) := by
  unfold m0_startSum_73 at h
  obtain ⟨hg10, h⟩ := zgd_inv h
  refine zblq Hy.1 Hy.2.1 [(.astore 4, 2), (.aload 4, 2), (.iload 3, 1), (.aload 1, 1), (.multianewarray 2 0, 3)] (S' := (82, [(1, .inr (.inr (some (2, i1)))), (3, .inl x3), (4, .inr (.inr (some (9, j0))))], [.inl (cg M 2 i1 0), .inl x3, .inr (.inr (some (9, j0)))], zfC M)) (b := Nat.blt i1 10 && true) (by decide +kernel) rfl hg10 ?_
  obtain ⟨hg12, h⟩ := zgd_inv h
  obtain ⟨M11, hc11, h⟩ := zbv_inv h
  refine zcallV Hy.1 (as := [.inl x3, .inl (cg M 2 i1 0)]) (st := []) (m9_start_met (zOK_G Hy.1) Hy.2.1 hc11) cw0_140 m9_start_in m9_start_se (by decide) (zhlv Hy.2.1 hg12) rfl (zroom Hy.2.2 ⟨by decide, by decide⟩) rfl (by decide +kernel) ⟨Nat.zero_le _, Nat.zero_le _⟩ ?_
  cases h
  exact zret_v Hy.1 Hy.2.2 hE (by decide +kernel)
def m0_startSum_54 (i1 : Nat) (t0 : Int32) (M : cM) : Option cM := zgd (Nat.blt i1 10 && true) ((if (cg M 2 i1 0) = 0 then m0_startSum_73 i1 t0 50 M else zgd (Nat.blt i1 10 && true) (m0_startSum_73 i1 t0 i1 M)))
theorem m0_startSum_54_ok {X : zX} {G : zG} (Hy : zHy X G q0_startSum zcC 1 24 (none)) {M' : cM} (hE : zEnd X G (none) (zfC M')) (i1 : Nat) (t0 : Int32) (M : cM) (h : m0_startSum_54 i1 t0 M = some M') : zGo (X, q0_startSum, G) 0 0 (54, [(0, .inr (.inr (some (0, 0)))), (1, .inr (.inr (some (2, i1))))], [.inl t0], zfC M) := by
  unfold m0_startSum_54 at h
  obtain ⟨hg8, h⟩ := zgd_inv h
  refine zblq Hy.1 Hy.2.1 [(.istore 3, 1), (.aload 1, 1), (.multianewarray 2 0, 3)] (S' := (59, [(0, .inr (.inr (some (0, 0)))), (1, .inr (.inr (some (2, i1)))), (3, .inl t0)], [.inl (cg M 2 i1 0)], zfC M)) (b := Nat.blt i1 10 && true) (by decide +kernel) rfl hg8 ?_
  refine zif_ne Hy.1 (off := 10) (tgt := 69) (by decide +kernel) (by decide) (fun hb13 => ?_) (fun hb13 => ?_)
  · replace h := zite_f h hb13
    obtain ⟨hg9, h⟩ := zgd_inv h
    refine zblq Hy.1 Hy.2.1 [(.aload 1, 1), (.getfield 213, 3)] (S' := (73, [(0, .inr (.inr (some (0, 0)))), (1, .inr (.inr (some (2, i1)))), (3, .inl t0)], [.inr (.inr (some (9, i1)))], zfC M)) (b := Nat.blt i1 10 && true) (by decide +kernel) rfl hg9 ?_
    refine zGo_keep [1, 3] rfl ?_
    exact m0_startSum_73_ok Hy hE i1 t0 i1 M h
  · replace h := zite_t h hb13
    refine zblq Hy.1 Hy.2.1 [(.aload 0, 1), (.getfield 2, 3), (.ldc 73, 3)] (S' := (73, [(0, .inr (.inr (some (0, 0)))), (1, .inr (.inr (some (2, i1)))), (3, .inl t0)], [.inr (.inr (some (9, 50)))], zfC M)) (b := true) (by decide +kernel) rfl rfl ?_
    refine zGo_keep [1, 3] rfl ?_
    exact m0_startSum_73_ok Hy hE i1 t0 50 M h
def m0_startSum (i1 : Nat) (M : cM) : Option cM := zgd (znz (24 : Int32) && true) (zgd (Nat.blt i1 10) (zbd (m2_loudAt i1 (zrem (cg M 3 0 5) (24 : Int32)) M) (fun r2 M2 => (if r2 = (16 : Int32) then some M2 else zgd (Nat.blt i1 10 && true) (zbd (m7_isMetBy 1 r2 (cg M2 2 i1 0) M2) (fun r5 M5 => (if r5 = 0 then some M5 else zgd (Nat.blt i1 10 && true) ((if (cg M5 2 i1 10) = (16 : Int32) then m0_startSum_54 i1 r2 M5 else zgd (Nat.blt i1 10 && true) (m0_startSum_54 i1 (cg M5 2 i1 10) M5))))))))))
theorem m0_startSum_ok {X : zX} {G : zG} (Hy : zHy X G q0_startSum zcC 1 24 (none)) {M' : cM} (hE : zEnd X G (none) (zfC M')) (i1 : Nat) (M : cM) (h : m0_startSum i1 M = some M') : zGo (X, q0_startSum, G) 0 0 (0, [(0, .inr (.inr (some (0, 0)))), (1, .inr (.inr (some (2, i1))))], [], zfC M) := by
  unfold m0_startSum at h
  obtain ⟨hg1, h⟩ := zgd_inv h
  refine zblq Hy.1 Hy.2.1 [(.aload 1, 1), (.aload 0, 1), (.getfield 0, 3), (.multianewarray 3 5, 3), (.iconst 24, 2), (.irem, 1)] (S' := (11, [(0, .inr (.inr (some (0, 0)))), (1, .inr (.inr (some (2, i1))))], [.inl (zrem (cg M 3 0 5) (24 : Int32)), .inr (.inr (some (2, i1)))], zfC M)) (b := znz (24 : Int32) && true) (by decide +kernel) rfl hg1 ?_
  obtain ⟨hg3, h⟩ := zgd_inv h
  obtain ⟨r2, M2, hc2, h⟩ := zbd_inv h
  refine zcallV Hy.1 (as := [.inl (zrem (cg M 3 0 5) (24 : Int32))]) (st := []) (m2_loudAt_met (zOK_G Hy.1) Hy.2.1 hc2) cw0_125 m2_loudAt_in m2_loudAt_se (by decide) (zhlv Hy.2.1 hg3) rfl (zroom Hy.2.2 ⟨by decide, by decide⟩) rfl (by decide +kernel) ⟨Nat.zero_le _, Nat.zero_le _⟩ ?_
  refine zblq Hy.1 Hy.2.1 [(.istore 2, 1), (.iload 2, 1), (.iconst 16, 2)] (S' := (18, [(0, .inr (.inr (some (0, 0)))), (1, .inr (.inr (some (2, i1)))), (2, .inl r2)], [.inl (16 : Int32), .inl r2], zfC M2)) (b := true) (by decide +kernel) rfl rfl ?_
  refine zic_eq Hy.1 (off := 18) (tgt := 36) (by decide +kernel) (by decide) (fun hb16 => ?_) (fun hb16 => ?_)
  · replace h := zite_t h hb16
    cases h
    exact zret_v Hy.1 Hy.2.2 hE (by decide +kernel)
  · replace h := zite_f h hb16
    obtain ⟨hg4, h⟩ := zgd_inv h
    refine zblq Hy.1 Hy.2.1 [(.aload 0, 1), (.getfield 1, 3), (.iload 2, 1), (.aload 1, 1), (.multianewarray 2 0, 3)] (S' := (30, [(0, .inr (.inr (some (0, 0)))), (1, .inr (.inr (some (2, i1)))), (2, .inl r2)], [.inl (cg M2 2 i1 0), .inl r2, .inr (.inr (some (7, 1)))], zfC M2)) (b := Nat.blt i1 10 && true) (by decide +kernel) rfl hg4 ?_
    obtain ⟨r5, M5, hc5, h⟩ := zbd_inv h
    refine zcallV Hy.1 (as := [.inl r2, .inl (cg M2 2 i1 0)]) (st := []) (m7_isMetBy_met (zOK_G Hy.1) Hy.2.1 hc5) cw0_131 m7_isMetBy_in m7_isMetBy_se (by decide) (zhlv Hy.2.1 rfl) rfl (zroom Hy.2.2 ⟨by decide, by decide⟩) rfl (by decide +kernel) ⟨Nat.zero_le _, Nat.zero_le _⟩ ?_
    refine zif_ne Hy.1 (off := 4) (tgt := 37) (by decide +kernel) (by decide) (fun hb15 => ?_) (fun hb15 => ?_)
    · replace h := zite_f h hb15
      obtain ⟨hg6, h⟩ := zgd_inv h
      refine zblq Hy.1 Hy.2.1 [(.aload 1, 1), (.multianewarray 2 10, 3), (.iconst 16, 2)] (S' := (43, [(0, .inr (.inr (some (0, 0)))), (1, .inr (.inr (some (2, i1)))), (2, .inl r2)], [.inl (16 : Int32), .inl (cg M5 2 i1 10)], zfC M5)) (b := Nat.blt i1 10 && true) (by decide +kernel) rfl hg6 ?_
      refine zic_ne Hy.1 (off := 7) (tgt := 50) (by decide +kernel) (by decide) (fun hb14 => ?_) (fun hb14 => ?_)
      · replace h := zite_f h hb14
        obtain ⟨hg7, h⟩ := zgd_inv h
        refine zblq Hy.1 Hy.2.1 [(.aload 1, 1), (.multianewarray 2 10, 3)] (S' := (54, [(0, .inr (.inr (some (0, 0)))), (1, .inr (.inr (some (2, i1)))), (2, .inl r2)], [.inl (cg M5 2 i1 10)], zfC M5)) (b := Nat.blt i1 10 && true) (by decide +kernel) rfl hg7 ?_
        refine zGo_keep [0, 1] rfl ?_
        exact m0_startSum_54_ok Hy hE i1 (cg M5 2 i1 10) M5 h
      · replace h := zite_t h hb14
        refine zblq Hy.1 Hy.2.1 [(.iload 2, 1), (.ldc 54, 3)] (S' := (54, [(0, .inr (.inr (some (0, 0)))), (1, .inr (.inr (some (2, i1)))), (2, .inl r2)], [.inl r2], zfC M5)) (b := true) (by decide +kernel) rfl rfl ?_
        refine zGo_keep [0, 1] rfl ?_
        exact m0_startSum_54_ok Hy hE i1 r2 M5 h
    · replace h := zite_t h hb15
      cases h
      exact zret_v Hy.1 Hy.2.2 hE (by decide +kernel)
theorem m0_startSum_met {l : Launch} {G : zG} (hG : zGok G) (hcn : zgcn G = zcC) {i1 : Nat} {M : cM} {M' : cM} (h : m0_startSum i1 M = some M') : zMet l G yX0_startSum cX0_startSum 5 (none) 1 24 [.inr (.inr (some (0, 0))), .inr (.inr (some (2, i1)))] (zfC M) (none) (zfC M') :=
  zMet_of hG tbX0_ok rfl (by decide +kernel) (Nat.le_of_ble_eq_true rfl) (fun X _ Z hA hE => m0_startSum_ok ⟨Z, hcn, hA⟩ hE i1 M h)
