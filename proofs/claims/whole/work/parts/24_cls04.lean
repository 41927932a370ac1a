abbrev q0_beginEpoch : ByteArray × Nat × String × zT := (cX0_beginEpoch, 3, RX0, tbX0)
def m0_beginEpoch_86 (k20 : Int32 → cM → Option cM) (x1 : Int32) (M : cM) : Option cM := k20 (x1 + (1 : Int32)) M
theorem m0_beginEpoch_86_ok {X : zX} {G : zG} (Hy : zHy X G q0_beginEpoch zcC 3 65 (none)) {M' : cM} (hE : zEnd X G (none) (zfC M')) {k20 : Int32 → cM → Option cM} (hk20 : ∀ (x1 : Int32) (M : cM), k20 x1 M = some M' → zGo (X, q0_beginEpoch, G) 0 0 (20, [(0, .inr (.inr (some (0, 0)))), (1, .inl x1)], [], zfC M)) (x1 : Int32) (M : cM) (h : m0_beginEpoch_86 k20 x1 M = some M') : zGo (X, q0_beginEpoch, G) 0 0 (86, [(0, .inr (.inr (some (0, 0)))), (1, .inl x1)], [], zfC M) := by
  unfold m0_beginEpoch_86 at h
  refine zblq Hy.1 Hy.2.1 [(.iinc 1 1, 3), (.ldc 20, 3)] (S' := (20, [(0, .inr (.inr (some (0, 0)))), (1, .inl (x1 + (1 : Int32)))], [], zfC M)) (b := true) (by decide +kernel) rfl rfl ?_
  refine zGo_keep [0, 1] rfl ?_
  exact hk20 (x1 + (1 : Int32)) M h
def m0_beginEpoch_57 (k20 : Int32 → cM → Option cM) (x1 : Int32) (i2 : Nat) (M : cM) : Option cM := zgd (zin (5 : Int32) 8 && true) (zgd (Nat.blt i2 10) (zbd (m2_forgetSums i2 M) (fun r6 M6 => zgd (zin (5 : Int32) 8 && true) (zbd (m0_isIn (cg (cs M6 103 0 (nx (5 : Int32)) ((cg M 103 0 (nx (5 : Int32))) + r6)) 0 0 8) x1 (cs M6 103 0 (nx (5 : Int32)) ((cg M 103 0 (nx (5 : Int32))) + r6))) (fun r9 M9 => (if r9 = 0 then m0_beginEpoch_86 k20 x1 M9 else zbv (m0_startSum i2 M9) (fun M10 => m0_beginEpoch_86 k20 x1 M10)))))))
theorem m0_beginEpoch_57_ok {X : zX} {G : zG} (Hy : zHy X G q0_beginEpoch zcC 3 65 (none)) {M' : cM} (hE : zEnd X G (none) (zfC M')) {k20 : Int32 → cM → Option cM} (hk20 : ∀ (x1 : Int32) (M : cM), k20 x1 M = some M' → zGo (X, q0_beginEpoch, G) 0 0 (20, [(0, .inr (.inr (some (0, 0)))), (1, .inl x1)], [], zfC M)) (x1 : Int32) (i2 : Nat) (M : cM) (h : m0_beginEpoch_57 k20 x1 i2 M = some M') : zGo (X, q0_beginEpoch, G) 0 0 (57, [(0, .inr (.inr (some (0, 0)))), (1, .inl x1), (2, .inr (.inr (some (2, i2))))], [], zfC M) := by
  unfold m0_beginEpoch_57 at h
  obtain ⟨hg5, h⟩ := zgd_inv h
  refine zblq Hy.1 Hy.2.1 [(.aload 0, 1), (.getfield 3, 3), (.iconst 5, 1), (.dup2, 1), (.iaload, 1), (.aload 2, 1)] (S' := (65, [(0, .inr (.inr (some (0, 0)))), (1, .inl x1), (2, .inr (.inr (some (2, i2))))], [.inr (.inr (some (2, i2))), .inl (cg M 103 0 (nx (5 : Int32))), .inl (5 : Int32), .inr (.inr (some (103, 0)))], zfC M)) (b := zin (5 : Int32) 8 && true) (by decide +kernel) rfl hg5 ?_
  obtain ⟨hg7, h⟩ := zgd_inv h
  obtain ⟨r6, M6, hc6, h⟩ := zbd_inv h
  refine zcallV Hy.1 (as := []) (st := [.inl (cg M 103 0 (nx (5 : Int32))), .inl (5 : Int32), .inr (.inr (some (103, 0)))]) (m2_forgetSums_met (zOK_G Hy.1) Hy.2.1 hc6) cw0_56 m2_forgetSums_in m2_forgetSums_se (by decide) (zhlv Hy.2.1 hg7) rfl (zroom Hy.2.2 ⟨by decide, by decide⟩) rfl (by decide +kernel) ⟨Nat.zero_le _, Nat.zero_le _⟩ ?_
  obtain ⟨hg8, h⟩ := zgd_inv h
  refine zblq Hy.1 Hy.2.1 [(.iadd, 1), (.iastore, 1), (.aload 0, 1), (.multianewarray 0 8, 3), (.iload 1, 1)] (S' := (75, [(0, .inr (.inr (some (0, 0)))), (1, .inl x1), (2, .inr (.inr (some (2, i2))))], [.inl x1, .inl (cg (cs M6 103 0 (nx (5 : Int32)) ((cg M 103 0 (nx (5 : Int32))) + r6)) 0 0 8)], zfC (cs M6 103 0 (nx (5 : Int32)) ((cg M 103 0 (nx (5 : Int32))) + r6)))) (b := zin (5 : Int32) 8 && true) (by decide +kernel) rfl hg8 ?_
  obtain ⟨r9, M9, hc9, h⟩ := zbd_inv h
  refine zcallS Hy.1 (as := [.inl (cg (cs M6 103 0 (nx (5 : Int32)) ((cg M 103 0 (nx (5 : Int32))) + r6)) 0 0 8), .inl x1]) (st := []) (m0_isIn_met (zOK_G Hy.1) Hy.2.1 hc9) cw0_87 m0_isIn_in rfl (zroom Hy.2.2 ⟨by decide, by decide⟩) rfl (by decide +kernel) ⟨Nat.zero_le _, Nat.zero_le _⟩ ?_
  refine zif_eq Hy.1 (off := 8) (tgt := 86) (by decide +kernel) (by decide) (fun hb11 => ?_) (fun hb11 => ?_)
  · replace h := zite_t h hb11
    refine zGo_keep [0, 1] rfl ?_
    exact m0_beginEpoch_86_ok Hy hE hk20 x1 M9 h
  · replace h := zite_f h hb11
    refine zblq Hy.1 Hy.2.1 [(.aload 0, 1), (.aload 2, 1)] (S' := (83, [(0, .inr (.inr (some (0, 0)))), (1, .inl x1), (2, .inr (.inr (some (2, i2))))], [.inr (.inr (some (2, i2))), .inr (.inr (some (0, 0)))], zfC M9)) (b := true) (by decide +kernel) rfl rfl ?_
    obtain ⟨M10, hc10, h⟩ := zbv_inv h
    refine zcallV Hy.1 (as := [.inr (.inr (some (2, i2)))]) (st := []) (m0_startSum_met (zOK_G Hy.1) Hy.2.1 hc10) cw0_121 m0_startSum_in m0_startSum_se (by decide) (zhlv Hy.2.1 rfl) rfl (zroom Hy.2.2 ⟨by decide, by decide⟩) rfl (by decide +kernel) ⟨Nat.zero_le _, Nat.zero_le _⟩ ?_
    refine zGo_keep [0, 1] rfl ?_
    exact m0_beginEpoch_86_ok Hy hE hk20 x1 M10 h
def m0_beginEpoch_20 : Nat → Int32 → cM → Option cM
  | 0, _, _ => none
  | n + 1, x1, M => (if (cg M 3 0 4) ≤ x1 then some M else zbd (m3_of x1 M) (fun r2 M2 => zgd (Nat.blt r2 10) (zbd (m2_hasUnsaidSum r2 M2) (fun r3 M3 => (if r3 = 0 then m0_beginEpoch_57 (m0_beginEpoch_20 n) x1 r2 M3 else zgd (zin (5 : Int32) 8 && (zin (5 : Int32) 8 && true)) (m0_beginEpoch_57 (m0_beginEpoch_20 n) x1 r2 (cs M3 103 0 (nx (5 : Int32)) ((cg M3 103 0 (nx (5 : Int32))) + (1 : Int32)))))))))
theorem m0_beginEpoch_20_ok {X : zX} {G : zG} (Hy : zHy X G q0_beginEpoch zcC 3 65 (none)) {M' : cM} (hE : zEnd X G (none) (zfC M')) : ∀ (n : Nat) (x1 : Int32) (M : cM), m0_beginEpoch_20 n x1 M = some M' → zGo (X, q0_beginEpoch, G) 0 0 (20, [(0, .inr (.inr (some (0, 0)))), (1, .inl x1)], [], zfC M) := by
  intro n
  induction n with
  | zero => intro x1 M h; cases h
  | succ n ih =>
    intro x1 M h
    unfold m0_beginEpoch_20 at h
    refine zblq Hy.1 Hy.2.1 [(.iload 1, 1), (.aload 0, 1), (.getfield 0, 3), (.multianewarray 3 4, 3)] (S' := (28, [(0, .inr (.inr (some (0, 0)))), (1, .inl x1)], [.inl (cg M 3 0 4), .inl x1], zfC M)) (b := true) (by decide +kernel) rfl rfl ?_
    refine zic_ge Hy.1 (off := 64) (tgt := 92) (by decide +kernel) (by decide) (fun hb14 => ?_) (fun hb14 => ?_)
    · replace h := zite_t h hb14
      cases h
      exact zret_v Hy.1 Hy.2.2 hE (by decide +kernel)
    · replace h := zite_f h hb14
      refine zblq Hy.1 Hy.2.1 [(.aload 0, 1), (.getfield 0, 3), (.iload 1, 1)] (S' := (36, [(0, .inr (.inr (some (0, 0)))), (1, .inl x1)], [.inl x1, .inr (.inr (some (3, 0)))], zfC M)) (b := true) (by decide +kernel) rfl rfl ?_
      obtain ⟨r2, M2, hc2, h⟩ := zbd_inv h
      refine zcallV Hy.1 (as := [.inl x1]) (st := []) (m3_of_met (zOK_G Hy.1) Hy.2.1 hc2) cw0_52 m3_of_in m3_of_se (by decide) (zhlv Hy.2.1 rfl) rfl (zroom Hy.2.2 ⟨by decide, by decide⟩) rfl (by decide +kernel) ⟨Nat.zero_le _, Nat.zero_le _⟩ ?_
      refine zblq Hy.1 Hy.2.1 [(.astore 2, 1), (.aload 2, 1)] (S' := (41, [(0, .inr (.inr (some (0, 0)))), (1, .inl x1), (2, .inr (.inr (some (2, r2))))], [.inr (.inr (some (2, r2)))], zfC M2)) (b := true) (by decide +kernel) rfl rfl ?_
      obtain ⟨hg4, h⟩ := zgd_inv h
      obtain ⟨r3, M3, hc3, h⟩ := zbd_inv h
      refine zcallV Hy.1 (as := []) (st := []) (m2_hasUnsaidSum_met (zOK_G Hy.1) Hy.2.1 hc3) cw0_118 m2_hasUnsaidSum_in m2_hasUnsaidSum_se (by decide) (zhlv Hy.2.1 hg4) rfl (zroom Hy.2.2 ⟨by decide, by decide⟩) rfl (by decide +kernel) ⟨Nat.zero_le _, Nat.zero_le _⟩ ?_
      refine zif_eq Hy.1 (off := 13) (tgt := 57) (by decide +kernel) (by decide) (fun hb13 => ?_) (fun hb13 => ?_)
      · replace h := zite_t h hb13
        refine zGo_keep [0, 1, 2] rfl ?_
        exact m0_beginEpoch_57_ok Hy hE ih x1 r2 M3 h
      · replace h := zite_f h hb13
        obtain ⟨hg12, h⟩ := zgd_inv h
        refine zblq Hy.1 Hy.2.1 [(.aload 0, 1), (.getfield 3, 3), (.iconst 5, 1), (.dup2, 1), (.iaload, 1), (.iconst 1, 1), (.iadd, 1), (.iastore, 1)] (S' := (57, [(0, .inr (.inr (some (0, 0)))), (1, .inl x1), (2, .inr (.inr (some (2, r2))))], [], zfC (cs M3 103 0 (nx (5 : Int32)) ((cg M3 103 0 (nx (5 : Int32))) + (1 : Int32))))) (b := zin (5 : Int32) 8 && (zin (5 : Int32) 8 && true)) (by decide +kernel) rfl hg12 ?_
        refine zGo_keep [0, 1, 2] rfl ?_
        exact m0_beginEpoch_57_ok Hy hE ih x1 r2 (cs M3 103 0 (nx (5 : Int32)) ((cg M3 103 0 (nx (5 : Int32))) + (1 : Int32))) h
def m0_beginEpoch  (M : cM) : Option cM := zbv (m9_clear 50 M) (fun M1 => m0_beginEpoch_20 zfu (0 : Int32) (cs M1 0 0 6 (cg M1 3 0 5)))
theorem m0_beginEpoch_ok {X : zX} {G : zG} (Hy : zHy X G q0_beginEpoch zcC 3 65 (none)) {M' : cM} (hE : zEnd X G (none) (zfC M'))  (M : cM) (h : m0_beginEpoch M = some M') : zGo (X, q0_beginEpoch, G) 0 0 (0, [(0, .inr (.inr (some (0, 0))))], [], zfC M) := by
  unfold m0_beginEpoch at h
  refine zblq Hy.1 Hy.2.1 [(.aload 0, 1), (.getfield 2, 3)] (S' := (4, [(0, .inr (.inr (some (0, 0))))], [.inr (.inr (some (9, 50)))], zfC M)) (b := true) (by decide +kernel) rfl rfl ?_
  obtain ⟨M1, hc1, h⟩ := zbv_inv h
  refine zcallV Hy.1 (as := []) (st := []) (m9_clear_met (zOK_G Hy.1) Hy.2.1 hc1) cw0_44 m9_clear_in m9_clear_se (by decide) (zhlv Hy.2.1 rfl) rfl (zroom Hy.2.2 ⟨by decide, by decide⟩) rfl (by decide +kernel) ⟨Nat.zero_le _, Nat.zero_le _⟩ ?_
  refine zblq Hy.1 Hy.2.1 [(.aload 0, 1), (.aload 0, 1), (.getfield 0, 3), (.multianewarray 3 5, 3), (.invokeinterface 0 6, 3), (.iconst 0, 1), (.istore 1, 1)] (S' := (20, [(0, .inr (.inr (some (0, 0)))), (1, .inl (0 : Int32))], [], zfC (cs M1 0 0 6 (cg M1 3 0 5)))) (b := true) (by decide +kernel) rfl rfl ?_
  refine zGo_keep [0, 1] rfl ?_
  exact m0_beginEpoch_20_ok Hy hE zfu (0 : Int32) (cs M1 0 0 6 (cg M1 3 0 5)) h
theorem m0_beginEpoch_met {l : Launch} {G : zG} (hG : zGok G) (hcn : zgcn G = zcC)  {M : cM} {M' : cM} (h : m0_beginEpoch M = some M') : zMet l G yX0_beginEpoch cX0_beginEpoch 3 (none) 3 65 [.inr (.inr (some (0, 0)))] (zfC M) (none) (zfC M') :=
  zMet_of hG tbX0_ok rfl (by decide +kernel) (Nat.le_of_ble_eq_true rfl) (fun X _ Z hA hE => m0_beginEpoch_ok ⟨Z, hcn, hA⟩ hE M h)
abbrev q0_pass : ByteArray × Nat × String × zT := (cX0_pass, 2, RX0, tbX0)
def m0_pass_66 (k39 : Int32 → cM → Option cM) (x1 : Int32) (M : cM) : Option cM := k39 (x1 + (1 : Int32)) M
theorem m0_pass_66_ok {X : zX} {G : zG} (Hy : zHy X G q0_pass zcC 4 89 (none)) {M' : cM} (hE : zEnd X G (none) (zfC M')) {k39 : Int32 → cM → Option cM} (hk39 : ∀ (x1 : Int32) (M : cM), k39 x1 M = some M' → zGo (X, q0_pass, G) 0 0 (39, [(0, .inr (.inr (some (0, 0)))), (1, .inl x1)], [], zfC M)) (x1 : Int32) (M : cM) (h : m0_pass_66 k39 x1 M = some M') : zGo (X, q0_pass, G) 0 0 (66, [(0, .inr (.inr (some (0, 0)))), (1, .inl x1)], [], zfC M) := by
  unfold m0_pass_66 at h
  refine zblq Hy.1 Hy.2.1 [(.iinc 1 1, 3), (.ldc 39, 3)] (S' := (39, [(0, .inr (.inr (some (0, 0)))), (1, .inl (x1 + (1 : Int32)))], [], zfC M)) (b := true) (by decide +kernel) rfl rfl ?_
  refine zGo_keep [0, 1] rfl ?_
  exact hk39 (x1 + (1 : Int32)) M h
def m0_pass_39 : Nat → Int32 → cM → Option cM
  | 0, _, _ => none
  | n + 1, x1, M => (if (cg M 3 0 4) ≤ x1 then some (cs M 3 0 5 ((cg M 3 0 5) + (1 : Int32))) else zbd (m0_isIn (cg M 0 0 9) x1 M) (fun r6 M6 => (if r6 = 0 then m0_pass_66 (m0_pass_39 n) x1 M6 else zbv (m0_carry x1 M6) (fun M7 => m0_pass_66 (m0_pass_39 n) x1 M7))))
theorem m0_pass_39_ok {X : zX} {G : zG} (Hy : zHy X G q0_pass zcC 4 89 (none)) {M' : cM} (hE : zEnd X G (none) (zfC M')) : ∀ (n : Nat) (x1 : Int32) (M : cM), m0_pass_39 n x1 M = some M' → zGo (X, q0_pass, G) 0 0 (39, [(0, .inr (.inr (some (0, 0)))), (1, .inl x1)], [], zfC M) := by
  intro n
  induction n with
  | zero => intro x1 M h; cases h
  | succ n ih =>
    intro x1 M h
    unfold m0_pass_39 at h
    refine zblq Hy.1 Hy.2.1 [(.iload 1, 1), (.aload 0, 1), (.getfield 0, 3), (.multianewarray 3 4, 3)] (S' := (47, [(0, .inr (.inr (some (0, 0)))), (1, .inl x1)], [.inl (cg M 3 0 4), .inl x1], zfC M)) (b := true) (by decide +kernel) rfl rfl ?_
    refine zic_ge Hy.1 (off := 25) (tgt := 72) (by decide +kernel) (by decide) (fun hb9 => ?_) (fun hb9 => ?_)
    · replace h := zite_t h hb9
      refine zblq Hy.1 Hy.2.1 [(.aload 0, 1), (.getfield 0, 3), (.dup, 1), (.multianewarray 3 5, 3), (.iconst 1, 1), (.iadd, 1), (.invokeinterface 3 5, 3)] (S' := (85, [(0, .inr (.inr (some (0, 0)))), (1, .inl x1)], [], zfC (cs M 3 0 5 ((cg M 3 0 5) + (1 : Int32))))) (b := true) (by decide +kernel) rfl rfl ?_
      cases h
      exact zret_v Hy.1 Hy.2.2 hE (by decide +kernel)
    · replace h := zite_f h hb9
      refine zblq Hy.1 Hy.2.1 [(.aload 0, 1), (.multianewarray 0 9, 3), (.iload 1, 1)] (S' := (55, [(0, .inr (.inr (some (0, 0)))), (1, .inl x1)], [.inl x1, .inl (cg M 0 0 9)], zfC M)) (b := true) (by decide +kernel) rfl rfl ?_
      obtain ⟨r6, M6, hc6, h⟩ := zbd_inv h
      refine zcallS Hy.1 (as := [.inl (cg M 0 0 9), .inl x1]) (st := []) (m0_isIn_met (zOK_G Hy.1) Hy.2.1 hc6) cw0_87 m0_isIn_in rfl (zroom Hy.2.2 ⟨by decide, by decide⟩) rfl (by decide +kernel) ⟨Nat.zero_le _, Nat.zero_le _⟩ ?_
      refine zif_eq Hy.1 (off := 8) (tgt := 66) (by decide +kernel) (by decide) (fun hb8 => ?_) (fun hb8 => ?_)
      · replace h := zite_t h hb8
        refine zGo_keep [0, 1] rfl ?_
        exact m0_pass_66_ok Hy hE ih x1 M6 h
      · replace h := zite_f h hb8
        refine zblq Hy.1 Hy.2.1 [(.aload 0, 1), (.iload 1, 1)] (S' := (63, [(0, .inr (.inr (some (0, 0)))), (1, .inl x1)], [.inl x1, .inr (.inr (some (0, 0)))], zfC M6)) (b := true) (by decide +kernel) rfl rfl ?_
        obtain ⟨M7, hc7, h⟩ := zbv_inv h
        refine zcallV Hy.1 (as := [.inl x1]) (st := []) (m0_carry_met (zOK_G Hy.1) Hy.2.1 hc7) cw0_91 m0_carry_in m0_carry_se (by decide) (zhlv Hy.2.1 rfl) rfl (zroom Hy.2.2 ⟨by decide, by decide⟩) rfl (by decide +kernel) ⟨Nat.zero_le _, Nat.zero_le _⟩ ?_
        refine zGo_keep [0, 1] rfl ?_
        exact m0_pass_66_ok Hy hE ih x1 M7 h
def m0_pass_25  (M : cM) : Option cM := zbv (m0_queueSums M) (fun M3 => zbv (m0_speak M3) (fun M4 => zbv (m0_spendHearing M4) (fun M5 => m0_pass_39 zfu (0 : Int32) M5)))
theorem m0_pass_25_ok {X : zX} {G : zG} (Hy : zHy X G q0_pass zcC 4 89 (none)) {M' : cM} (hE : zEnd X G (none) (zfC M'))  (M : cM) (h : m0_pass_25 M = some M') : zGo (X, q0_pass, G) 0 0 (25, [(0, .inr (.inr (some (0, 0))))], [], zfC M) := by
  unfold m0_pass_25 at h
  refine zblq Hy.1 Hy.2.1 [(.aload 0, 1)] (S' := (26, [(0, .inr (.inr (some (0, 0))))], [.inr (.inr (some (0, 0)))], zfC M)) (b := true) (by decide +kernel) rfl rfl ?_
  obtain ⟨M3, hc3, h⟩ := zbv_inv h
  refine zcallV Hy.1 (as := []) (st := []) (m0_queueSums_met (zOK_G Hy.1) Hy.2.1 hc3) cw0_75 m0_queueSums_in m0_queueSums_se (by decide) (zhlv Hy.2.1 rfl) rfl (zroom Hy.2.2 ⟨by decide, by decide⟩) rfl (by decide +kernel) ⟨Nat.zero_le _, Nat.zero_le _⟩ ?_
  refine zblq Hy.1 Hy.2.1 [(.aload 0, 1)] (S' := (30, [(0, .inr (.inr (some (0, 0))))], [.inr (.inr (some (0, 0)))], zfC M3)) (b := true) (by decide +kernel) rfl rfl ?_
  obtain ⟨M4, hc4, h⟩ := zbv_inv h
  refine zcallV Hy.1 (as := []) (st := []) (m0_speak_met (zOK_G Hy.1) Hy.2.1 hc4) cw0_78 m0_speak_in m0_speak_se (by decide) (zhlv Hy.2.1 rfl) rfl (zroom Hy.2.2 ⟨by decide, by decide⟩) rfl (by decide +kernel) ⟨Nat.zero_le _, Nat.zero_le _⟩ ?_
  refine zblq Hy.1 Hy.2.1 [(.aload 0, 1)] (S' := (34, [(0, .inr (.inr (some (0, 0))))], [.inr (.inr (some (0, 0)))], zfC M4)) (b := true) (by decide +kernel) rfl rfl ?_
  obtain ⟨M5, hc5, h⟩ := zbv_inv h
  refine zcallV Hy.1 (as := []) (st := []) (m0_spendHearing_met (zOK_G Hy.1) Hy.2.1 hc5) cw0_81 m0_spendHearing_in m0_spendHearing_se (by decide) (zhlv Hy.2.1 rfl) rfl (zroom Hy.2.2 ⟨by decide, by decide⟩) rfl (by decide +kernel) ⟨Nat.zero_le _, Nat.zero_le _⟩ ?_
  refine zblq Hy.1 Hy.2.1 [(.iconst 0, 1), (.istore 1, 1)] (S' := (39, [(0, .inr (.inr (some (0, 0)))), (1, .inl (0 : Int32))], [], zfC M5)) (b := true) (by decide +kernel) rfl rfl ?_
  refine zGo_keep [0, 1] rfl ?_
  exact m0_pass_39_ok Hy hE zfu (0 : Int32) M5 h
def m0_pass  (M : cM) : Option cM := zbv (m0_spendRest M) (fun M1 => zbd (m7_beginsEpoch 1 (cg M1 3 0 5) M1) (fun r2 M2 => (if r2 = 0 then m0_pass_25 M2 else zbv (m0_beginEpoch M2) (fun M10 => m0_pass_25 M10))))
theorem m0_pass_ok {X : zX} {G : zG} (Hy : zHy X G q0_pass zcC 4 89 (none)) {M' : cM} (hE : zEnd X G (none) (zfC M'))  (M : cM) (h : m0_pass M = some M') : zGo (X, q0_pass, G) 0 0 (0, [(0, .inr (.inr (some (0, 0))))], [], zfC M) := by
  unfold m0_pass at h
  refine zblq Hy.1 Hy.2.1 [(.aload 0, 1)] (S' := (1, [(0, .inr (.inr (some (0, 0))))], [.inr (.inr (some (0, 0)))], zfC M)) (b := true) (by decide +kernel) rfl rfl ?_
  obtain ⟨M1, hc1, h⟩ := zbv_inv h
  refine zcallV Hy.1 (as := []) (st := []) (m0_spendRest_met (zOK_G Hy.1) Hy.2.1 hc1) cw0_62 m0_spendRest_in m0_spendRest_se (by decide) (zhlv Hy.2.1 rfl) rfl (zroom Hy.2.2 ⟨by decide, by decide⟩) rfl (by decide +kernel) ⟨Nat.zero_le _, Nat.zero_le _⟩ ?_
  refine zblq Hy.1 Hy.2.1 [(.aload 0, 1), (.getfield 1, 3), (.aload 0, 1), (.getfield 0, 3), (.multianewarray 3 5, 3)] (S' := (15, [(0, .inr (.inr (some (0, 0))))], [.inl (cg M1 3 0 5), .inr (.inr (some (7, 1)))], zfC M1)) (b := true) (by decide +kernel) rfl rfl ?_
  obtain ⟨r2, M2, hc2, h⟩ := zbd_inv h
  refine zcallV Hy.1 (as := [.inl (cg M1 3 0 5)]) (st := []) (m7_beginsEpoch_met (zOK_G Hy.1) Hy.2.1 hc2) cw0_68 m7_beginsEpoch_in m7_beginsEpoch_se (by decide) (zhlv Hy.2.1 rfl) rfl (zroom Hy.2.2 ⟨by decide, by decide⟩) rfl (by decide +kernel) ⟨Nat.zero_le _, Nat.zero_le _⟩ ?_
  refine zif_eq Hy.1 (off := 7) (tgt := 25) (by decide +kernel) (by decide) (fun hb11 => ?_) (fun hb11 => ?_)
  · replace h := zite_t h hb11
    refine zGo_keep [0] rfl ?_
    exact m0_pass_25_ok Hy hE M2 h
  · replace h := zite_f h hb11
    refine zblq Hy.1 Hy.2.1 [(.aload 0, 1)] (S' := (22, [(0, .inr (.inr (some (0, 0))))], [.inr (.inr (some (0, 0)))], zfC M2)) (b := true) (by decide +kernel) rfl rfl ?_
    obtain ⟨M10, hc10, h⟩ := zbv_inv h
    refine zcallV Hy.1 (as := []) (st := []) (m0_beginEpoch_met (zOK_G Hy.1) Hy.2.1 hc10) cw0_72 m0_beginEpoch_in m0_beginEpoch_se (by decide) (zhlv Hy.2.1 rfl) rfl (zroom Hy.2.2 ⟨by decide, by decide⟩) rfl (by decide +kernel) ⟨Nat.zero_le _, Nat.zero_le _⟩ ?_
    refine zGo_keep [0] rfl ?_
    exact m0_pass_25_ok Hy hE M10 h
theorem m0_pass_met {l : Launch} {G : zG} (hG : zGok G) (hcn : zgcn G = zcC)  {M : cM} {M' : cM} (h : m0_pass M = some M') : zMet l G yX0_pass cX0_pass 2 (none) 4 89 [.inr (.inr (some (0, 0)))] (zfC M) (none) (zfC M') :=
  zMet_of hG tbX0_ok rfl (by decide +kernel) (Nat.le_of_ble_eq_true rfl) (fun X _ Z hA hE => m0_pass_ok ⟨Z, hcn, hA⟩ hE M h)
abbrev q11_ticks : ByteArray × Nat × String × zT := (cX11_ticks, 3, RX11, tbX11)
def m11_ticks_30 : Nat → Int32 → Int32 → cM → Option (Int32 × cM)
  | 0, _, _, _ => none
  | n + 1, x1, x2, M => (if x1 ≤ x2 then some (cg M 3 0 5, M) else zbv (m0_pass M) (fun M2 => (m11_ticks_30 n) x1 (x2 + (1 : Int32)) M2))
theorem m11_ticks_30_ok {X : zX} {G : zG} (Hy : zHy X G q11_ticks zcC 5 110 (some .int)) {r : Int32} {M' : cM} (hE : zEnd X G (some (.inl r)) (zfC M')) : ∀ (n : Nat) (x1 : Int32) (x2 : Int32) (M : cM), m11_ticks_30 n x1 x2 M = some (r, M') → zGo (X, q11_ticks, G) 0 0 (30, [(0, .inr (.inr (some (11, 0)))), (1, .inl x1), (2, .inl x2)], [], zfC M) := by
  intro n
  induction n with
  | zero => intro x1 x2 M h; cases h
  | succ n ih =>
    intro x1 x2 M h
    unfold m11_ticks_30 at h
    refine zblq Hy.1 Hy.2.1 [(.iload 2, 1), (.iload 1, 1)] (S' := (32, [(0, .inr (.inr (some (11, 0)))), (1, .inl x1), (2, .inl x2)], [.inl x1, .inl x2], zfC M)) (b := true) (by decide +kernel) rfl rfl ?_
    refine zic_ge Hy.1 (off := 16) (tgt := 48) (by decide +kernel) (by decide) (fun hb3 => ?_) (fun hb3 => ?_)
    · replace h := zite_t h hb3
      refine zblq Hy.1 Hy.2.1 [(.aload 0, 1), (.getfield 1100, 3), (.multianewarray 3 5, 3)] (S' := (55, [(0, .inr (.inr (some (11, 0)))), (1, .inl x1), (2, .inl x2)], [.inl (cg M 3 0 5)], zfC M)) (b := true) (by decide +kernel) rfl rfl ?_
      cases h
      exact zret_i Hy.1 Hy.2.2 hE (by decide +kernel)
    · replace h := zite_f h hb3
      refine zblq Hy.1 Hy.2.1 [(.aload 0, 1), (.getfield 1102, 3)] (S' := (39, [(0, .inr (.inr (some (11, 0)))), (1, .inl x1), (2, .inl x2)], [.inr (.inr (some (0, 0)))], zfC M)) (b := true) (by decide +kernel) rfl rfl ?_
      obtain ⟨M2, hc2, h⟩ := zbv_inv h
      refine zcallV Hy.1 (as := []) (st := []) (m0_pass_met (zOK_G Hy.1) Hy.2.1 hc2) cw11_157 m0_pass_in m0_pass_se (by decide) (zhlv Hy.2.1 rfl) rfl (zroom Hy.2.2 ⟨by decide, by decide⟩) rfl (by decide +kernel) ⟨Nat.zero_le _, Nat.zero_le _⟩ ?_
      refine zblq Hy.1 Hy.2.1 [(.iinc 2 1, 3), (.ldc 30, 3)] (S' := (30, [(0, .inr (.inr (some (11, 0)))), (1, .inl x1), (2, .inl (x2 + (1 : Int32)))], [], zfC M2)) (b := true) (by decide +kernel) rfl rfl ?_
      refine zGo_keep [0, 1, 2] rfl ?_
      exact ih x1 (x2 + (1 : Int32)) M2 h
def m11_ticks (x1 : Int32) (M : cM) : Option (Int32 × cM) := zbd (m11_outside x1 (1 : Int32) (60 : Int32) M) (fun r1 M1 => (if r1 = 0 then (if ((cg M1 3 0 5) + x1) ≤ (9000 : Int32) then m11_ticks_30 zfu x1 (0 : Int32) M1 else some ((-3 : Int32), M1)) else some ((-3 : Int32), M1)))
theorem m11_ticks_ok {X : zX} {G : zG} (Hy : zHy X G q11_ticks zcC 5 110 (some .int)) {r : Int32} {M' : cM} (hE : zEnd X G (some (.inl r)) (zfC M')) (x1 : Int32) (M : cM) (h : m11_ticks x1 M = some (r, M')) : zGo (X, q11_ticks, G) 0 0 (0, [(0, .inr (.inr (some (11, 0)))), (1, .inl x1)], [], zfC M) := by
  unfold m11_ticks at h
  refine zblq Hy.1 Hy.2.1 [(.iload 1, 1), (.iconst 1, 1), (.iconst 60, 2)] (S' := (4, [(0, .inr (.inr (some (11, 0)))), (1, .inl x1)], [.inl (60 : Int32), .inl (1 : Int32), .inl x1], zfC M)) (b := true) (by decide +kernel) rfl rfl ?_
  obtain ⟨r1, M1, hc1, h⟩ := zbd_inv h
  refine zcallS Hy.1 (as := [.inl x1, .inl (1 : Int32), .inl (60 : Int32)]) (st := []) (m11_outside_met (zOK_G Hy.1) Hy.2.1 hc1) cw11_66 m11_outside_in rfl (zroom Hy.2.2 ⟨by decide, by decide⟩) rfl (by decide +kernel) ⟨Nat.zero_le _, Nat.zero_le _⟩ ?_
  refine zif_ne Hy.1 (off := 18) (tgt := 25) (by decide +kernel) (by decide) (fun hb5 => ?_) (fun hb5 => ?_)
  · replace h := zite_f h hb5
    refine zblq Hy.1 Hy.2.1 [(.iconst (-3), 2)] (S' := (27, [(0, .inr (.inr (some (11, 0)))), (1, .inl x1)], [.inl (-3 : Int32)], zfC M1)) (b := true) (by decide +kernel) rfl rfl ?_
    cases h
    exact zret_i Hy.1 Hy.2.2 hE (by decide +kernel)
  · replace h := zite_t h hb5
    refine zblq Hy.1 Hy.2.1 [(.aload 0, 1), (.getfield 1100, 3), (.multianewarray 3 5, 3), (.iload 1, 1), (.iadd, 1), (.iconst 9000, 3)] (S' := (22, [(0, .inr (.inr (some (11, 0)))), (1, .inl x1)], [.inl (9000 : Int32), .inl ((cg M1 3 0 5) + x1)], zfC M1)) (b := true) (by decide +kernel) rfl rfl ?_
    refine zic_le Hy.1 (off := 6) (tgt := 28) (by decide +kernel) (by decide) (fun hb4 => ?_) (fun hb4 => ?_)
    · replace h := zite_t h hb4
      refine zblq Hy.1 Hy.2.1 [(.iconst 0, 1), (.istore 2, 1)] (S' := (30, [(0, .inr (.inr (some (11, 0)))), (1, .inl x1), (2, .inl (0 : Int32))], [], zfC M1)) (b := true) (by decide +kernel) rfl rfl ?_
      refine zGo_keep [0, 1, 2] rfl ?_
      exact m11_ticks_30_ok Hy hE zfu x1 (0 : Int32) M1 h
    · replace h := zite_f h hb4
      refine zblq Hy.1 Hy.2.1 [(.iconst (-3), 2)] (S' := (27, [(0, .inr (.inr (some (11, 0)))), (1, .inl x1)], [.inl (-3 : Int32)], zfC M1)) (b := true) (by decide +kernel) rfl rfl ?_
      cases h
      exact zret_i Hy.1 Hy.2.2 hE (by decide +kernel)
theorem m11_ticks_met {l : Launch} {G : zG} (hG : zGok G) (hcn : zgcn G = zcC) {x1 : Int32} {M : cM} {r : Int32} {M' : cM} (h : m11_ticks x1 M = some (r, M')) : zMet l G yX11_ticks cX11_ticks 3 (some .int) 5 110 [.inr (.inr (some (11, 0))), .inl x1] (zfC M) (some (.inl r)) (zfC M') :=
  zMet_of hG tbX11_ok rfl (by decide +kernel) (Nat.le_of_ble_eq_true rfl) (fun X _ Z hA hE => m11_ticks_ok ⟨Z, hcn, hA⟩ hE x1 M h)
abbrev q0_told : ByteArray × Nat × String × zT := (cX0_told, 2, RX0, tbX0)
def m0_told (x1 : Int32) (M : cM) : Option (Int32 × cM) := (if x1 < 0 then some ((0 : Int32), M) else (if (8 : Int32) ≤ x1 then some ((0 : Int32), M) else zgd (zin x1 8 && true) (some (cg M 103 0 (nx x1), M))))
theorem m0_told_ok {X : zX} {G : zG} (Hy : zHy X G q0_told zcC 0 0 (some .int)) {r : Int32} {M' : cM} (hE : zEnd X G (some (.inl r)) (zfC M')) (x1 : Int32) (M : cM) (h : m0_told x1 M = some (r, M')) : zGo (X, q0_told, G) 0 0 (0, [(0, .inr (.inr (some (0, 0)))), (1, .inl x1)], [], zfC M) := by
  unfold m0_told at h
  refine zblq Hy.1 Hy.2.1 [(.iload 1, 1)] (S' := (1, [(0, .inr (.inr (some (0, 0)))), (1, .inl x1)], [.inl x1], zfC M)) (b := true) (by decide +kernel) rfl rfl ?_
  refine zif_lt Hy.1 (off := 21) (tgt := 22) (by decide +kernel) (by decide) (fun hb3 => ?_) (fun hb3 => ?_)
  · replace h := zite_t h hb3
    refine zblq Hy.1 Hy.2.1 [(.iconst 0, 1)] (S' := (23, [(0, .inr (.inr (some (0, 0)))), (1, .inl x1)], [.inl (0 : Int32)], zfC M)) (b := true) (by decide +kernel) rfl rfl ?_
    cases h
    exact zret_i Hy.1 Hy.2.2 hE (by decide +kernel)
  · replace h := zite_f h hb3
    refine zblq Hy.1 Hy.2.1 [(.iload 1, 1), (.aload 0, 1), (.getfield 3, 3), (.arraylength, 1)] (S' := (10, [(0, .inr (.inr (some (0, 0)))), (1, .inl x1)], [.inl (8 : Int32), .inl x1], zfC M)) (b := true) (by decide +kernel) rfl rfl ?_
    refine zic_ge Hy.1 (off := 12) (tgt := 22) (by decide +kernel) (by decide) (fun hb2 => ?_) (fun hb2 => ?_)
    · replace h := zite_t h hb2
      refine zblq Hy.1 Hy.2.1 [(.iconst 0, 1)] (S' := (23, [(0, .inr (.inr (some (0, 0)))), (1, .inl x1)], [.inl (0 : Int32)], zfC M)) (b := true) (by decide +kernel) rfl rfl ?_
      cases h
      exact zret_i Hy.1 Hy.2.2 hE (by decide +kernel)
    · replace h := zite_f h hb2
      obtain ⟨hg1, h⟩ := zgd_inv h
      refine zblq Hy.1 Hy.2.1 [(.aload 0, 1), (.getfield 3, 3), (.iload 1, 1), (.iaload, 1), (.ldc 23, 3)] (S' := (23, [(0, .inr (.inr (some (0, 0)))), (1, .inl x1)], [.inl (cg M 103 0 (nx x1))], zfC M)) (b := zin x1 8 && true) (by decide +kernel) rfl hg1 ?_
      cases h
      exact zret_i Hy.1 Hy.2.2 hE (by decide +kernel)
theorem m0_told_met {l : Launch} {G : zG} (hG : zGok G) (hcn : zgcn G = zcC) {x1 : Int32} {M : cM} {r : Int32} {M' : cM} (h : m0_told x1 M = some (r, M')) : zMet l G yX0_told cX0_told 2 (some .int) 0 0 [.inr (.inr (some (0, 0))), .inl x1] (zfC M) (some (.inl r)) (zfC M') :=
  zMet_of hG tbX0_ok rfl (by decide +kernel) (Nat.le_of_ble_eq_true rfl) (fun X _ Z hA hE => m0_told_ok ⟨Z, hcn, hA⟩ hE x1 M h)
abbrev q11_lost : ByteArray × Nat × String × zT := (cX11_lost, 2, RX11, tbX11)
def m11_lost (x1 : Int32) (M : cM) : Option (Int32 × cM) := zbd (m11_outside x1 (0 : Int32) (7 : Int32) M) (fun r1 M1 => (if r1 = 0 then zbd (m0_told x1 M1) (fun r2 M2 => some (r2, M2)) else some ((-3 : Int32), M1)))
theorem m11_lost_ok {X : zX} {G : zG} (Hy : zHy X G q11_lost zcC 1 22 (some .int)) {r : Int32} {M' : cM} (hE : zEnd X G (some (.inl r)) (zfC M')) (x1 : Int32) (M : cM) (h : m11_lost x1 M = some (r, M')) : zGo (X, q11_lost, G) 0 0 (0, [(0, .inr (.inr (some (11, 0)))), (1, .inl x1)], [], zfC M) := by
  unfold m11_lost at h
  refine zblq Hy.1 Hy.2.1 [(.iload 1, 1), (.iconst 0, 1), (.iconst 7, 2)] (S' := (4, [(0, .inr (.inr (some (11, 0)))), (1, .inl x1)], [.inl (7 : Int32), .inl (0 : Int32), .inl x1], zfC M)) (b := true) (by decide +kernel) rfl rfl ?_
  obtain ⟨r1, M1, hc1, h⟩ := zbd_inv h
  refine zcallS Hy.1 (as := [.inl x1, .inl (0 : Int32), .inl (7 : Int32)]) (st := []) (m11_outside_met (zOK_G Hy.1) Hy.2.1 hc1) cw11_66 m11_outside_in rfl (zroom Hy.2.2 ⟨by decide, by decide⟩) rfl (by decide +kernel) ⟨Nat.zero_le _, Nat.zero_le _⟩ ?_
  refine zif_eq Hy.1 (off := 6) (tgt := 13) (by decide +kernel) (by decide) (fun hb3 => ?_) (fun hb3 => ?_)
  · replace h := zite_t h hb3
    refine zblq Hy.1 Hy.2.1 [(.aload 0, 1), (.getfield 1102, 3), (.iload 1, 1)] (S' := (18, [(0, .inr (.inr (some (11, 0)))), (1, .inl x1)], [.inl x1, .inr (.inr (some (0, 0)))], zfC M1)) (b := true) (by decide +kernel) rfl rfl ?_
    obtain ⟨r2, M2, hc2, h⟩ := zbd_inv h
    refine zcallV Hy.1 (as := [.inl x1]) (st := []) (m0_told_met (zOK_G Hy.1) Hy.2.1 hc2) cw11_160 m0_told_in m0_told_se (by decide) (zhlv Hy.2.1 rfl) rfl (zroom Hy.2.2 ⟨by decide, by decide⟩) rfl (by decide +kernel) ⟨Nat.zero_le _, Nat.zero_le _⟩ ?_
    cases h
    exact zret_i Hy.1 Hy.2.2 hE (by decide +kernel)
  · replace h := zite_f h hb3
    refine zblq Hy.1 Hy.2.1 [(.iconst (-3), 2)] (S' := (12, [(0, .inr (.inr (some (11, 0)))), (1, .inl x1)], [.inl (-3 : Int32)], zfC M1)) (b := true) (by decide +kernel) rfl rfl ?_
    cases h
    exact zret_i Hy.1 Hy.2.2 hE (by decide +kernel)
theorem m11_lost_met {l : Launch} {G : zG} (hG : zGok G) (hcn : zgcn G = zcC) {x1 : Int32} {M : cM} {r : Int32} {M' : cM} (h : m11_lost x1 M = some (r, M')) : zMet l G yX11_lost cX11_lost 2 (some .int) 1 22 [.inr (.inr (some (11, 0))), .inl x1] (zfC M) (some (.inl r)) (zfC M') :=
  zMet_of hG tbX11_ok rfl (by decide +kernel) (Nat.le_of_ble_eq_true rfl) (fun X _ Z hA hE => m11_lost_ok ⟨Z, hcn, hA⟩ hE x1 M h)
abbrev q0_wordKept : ByteArray × Nat × String × zT := (cX0_wordKept, 2, RX0, tbX0)
def m0_wordKept (x1 : Int32) (M : cM) : Option (Int32 × cM) := (if x1 < 0 then some ((-1 : Int32), M) else (if (cg M 0 0 5) ≤ x1 then some ((-1 : Int32), M) else (if (12 : Int32) ≤ x1 then some ((-1 : Int32), M) else zgd (zin x1 12 && true) (some (cg M 104 0 (nx x1), M)))))
theorem m0_wordKept_ok {X : zX} {G : zG} (Hy : zHy X G q0_wordKept zcC 0 0 (some .int)) {r : Int32} {M' : cM} (hE : zEnd X G (some (.inl r)) (zfC M')) (x1 : Int32) (M : cM) (h : m0_wordKept x1 M = some (r, M')) : zGo (X, q0_wordKept, G) 0 0 (0, [(0, .inr (.inr (some (0, 0)))), (1, .inl x1)], [], zfC M) := by
  unfold m0_wordKept at h
  refine zblq Hy.1 Hy.2.1 [(.iload 1, 1)] (S' := (1, [(0, .inr (.inr (some (0, 0)))), (1, .inl x1)], [.inl x1], zfC M)) (b := true) (by decide +kernel) rfl rfl ?_
  refine zif_lt Hy.1 (off := 26) (tgt := 27) (by decide +kernel) (by decide) (fun hb4 => ?_) (fun hb4 => ?_)
  · replace h := zite_t h hb4
    refine zblq Hy.1 Hy.2.1 [(.iconst (-1), 1)] (S' := (28, [(0, .inr (.inr (some (0, 0)))), (1, .inl x1)], [.inl (-1 : Int32)], zfC M)) (b := true) (by decide +kernel) rfl rfl ?_
    cases h
    exact zret_i Hy.1 Hy.2.2 hE (by decide +kernel)
  · replace h := zite_f h hb4
    refine zblq Hy.1 Hy.2.1 [(.iload 1, 1), (.aload 0, 1), (.multianewarray 0 5, 3)] (S' := (9, [(0, .inr (.inr (some (0, 0)))), (1, .inl x1)], [.inl (cg M 0 0 5), .inl x1], zfC M)) (b := true) (by decide +kernel) rfl rfl ?_
    refine zic_ge Hy.1 (off := 18) (tgt := 27) (by decide +kernel) (by decide) (fun hb3 => ?_) (fun hb3 => ?_)
    · replace h := zite_t h hb3
      refine zblq Hy.1 Hy.2.1 [(.iconst (-1), 1)] (S' := (28, [(0, .inr (.inr (some (0, 0)))), (1, .inl x1)], [.inl (-1 : Int32)], zfC M)) (b := true) (by decide +kernel) rfl rfl ?_
      cases h
      exact zret_i Hy.1 Hy.2.2 hE (by decide +kernel)
    · replace h := zite_f h hb3
      refine zblq Hy.1 Hy.2.1 [(.iload 1, 1), (.iconst 12, 2)] (S' := (15, [(0, .inr (.inr (some (0, 0)))), (1, .inl x1)], [.inl (12 : Int32), .inl x1], zfC M)) (b := true) (by decide +kernel) rfl rfl ?_
      refine zic_ge Hy.1 (off := 12) (tgt := 27) (by decide +kernel) (by decide) (fun hb2 => ?_) (fun hb2 => ?_)
      · replace h := zite_t h hb2
        refine zblq Hy.1 Hy.2.1 [(.iconst (-1), 1)] (S' := (28, [(0, .inr (.inr (some (0, 0)))), (1, .inl x1)], [.inl (-1 : Int32)], zfC M)) (b := true) (by decide +kernel) rfl rfl ?_
        cases h
        exact zret_i Hy.1 Hy.2.2 hE (by decide +kernel)
      · replace h := zite_f h hb2
        obtain ⟨hg1, h⟩ := zgd_inv h
        refine zblq Hy.1 Hy.2.1 [(.aload 0, 1), (.getfield 4, 3), (.iload 1, 1), (.iaload, 1), (.ldc 28, 3)] (S' := (28, [(0, .inr (.inr (some (0, 0)))), (1, .inl x1)], [.inl (cg M 104 0 (nx x1))], zfC M)) (b := zin x1 12 && true) (by decide +kernel) rfl hg1 ?_
        cases h
        exact zret_i Hy.1 Hy.2.2 hE (by decide +kernel)
theorem m0_wordKept_met {l : Launch} {G : zG} (hG : zGok G) (hcn : zgcn G = zcC) {x1 : Int32} {M : cM} {r : Int32} {M' : cM} (h : m0_wordKept x1 M = some (r, M')) : zMet l G yX0_wordKept cX0_wordKept 2 (some .int) 0 0 [.inr (.inr (some (0, 0))), .inl x1] (zfC M) (some (.inl r)) (zfC M') :=
  zMet_of hG tbX0_ok rfl (by decide +kernel) (Nat.le_of_ble_eq_true rfl) (fun X _ Z hA hE => m0_wordKept_ok ⟨Z, hcn, hA⟩ hE x1 M h)
abbrev q11_kept : ByteArray × Nat × String × zT := (cX11_kept, 2, RX11, tbX11)
def m11_kept (x1 : Int32) (M : cM) : Option (Int32 × cM) := (if 0 ≤ x1 then zbd (m0_wordKept x1 M) (fun r1 M1 => some (r1, M1)) else some ((-3 : Int32), M))
theorem m11_kept_ok {X : zX} {G : zG} (Hy : zHy X G q11_kept zcC 1 21 (some .int)) {r : Int32} {M' : cM} (hE : zEnd X G (some (.inl r)) (zfC M')) (x1 : Int32) (M : cM) (h : m11_kept x1 M = some (r, M')) : zGo (X, q11_kept, G) 0 0 (0, [(0, .inr (.inr (some (11, 0)))), (1, .inl x1)], [], zfC M) := by
  unfold m11_kept at h
  refine zblq Hy.1 Hy.2.1 [(.iload 1, 1)] (S' := (1, [(0, .inr (.inr (some (11, 0)))), (1, .inl x1)], [.inl x1], zfC M)) (b := true) (by decide +kernel) rfl rfl ?_
  refine zif_ge Hy.1 (off := 6) (tgt := 7) (by decide +kernel) (by decide) (fun hb2 => ?_) (fun hb2 => ?_)
  · replace h := zite_t h hb2
    refine zblq Hy.1 Hy.2.1 [(.aload 0, 1), (.getfield 1102, 3), (.iload 1, 1)] (S' := (12, [(0, .inr (.inr (some (11, 0)))), (1, .inl x1)], [.inl x1, .inr (.inr (some (0, 0)))], zfC M)) (b := true) (by decide +kernel) rfl rfl ?_
    obtain ⟨r1, M1, hc1, h⟩ := zbd_inv h
    refine zcallV Hy.1 (as := [.inl x1]) (st := []) (m0_wordKept_met (zOK_G Hy.1) Hy.2.1 hc1) cw11_163 m0_wordKept_in m0_wordKept_se (by decide) (zhlv Hy.2.1 rfl) rfl (zroom Hy.2.2 ⟨by decide, by decide⟩) rfl (by decide +kernel) ⟨Nat.zero_le _, Nat.zero_le _⟩ ?_
    cases h
    exact zret_i Hy.1 Hy.2.2 hE (by decide +kernel)
  · replace h := zite_f h hb2
    refine zblq Hy.1 Hy.2.1 [(.iconst (-3), 2)] (S' := (6, [(0, .inr (.inr (some (11, 0)))), (1, .inl x1)], [.inl (-3 : Int32)], zfC M)) (b := true) (by decide +kernel) rfl rfl ?_
    cases h
    exact zret_i Hy.1 Hy.2.2 hE (by decide +kernel)
theorem m11_kept_met {l : Launch} {G : zG} (hG : zGok G) (hcn : zgcn G = zcC) {x1 : Int32} {M : cM} {r : Int32} {M' : cM} (h : m11_kept x1 M = some (r, M')) : zMet l G yX11_kept cX11_kept 2 (some .int) 1 21 [.inr (.inr (some (11, 0))), .inl x1] (zfC M) (some (.inl r)) (zfC M') :=
  zMet_of hG tbX11_ok rfl (by decide +kernel) (Nat.le_of_ble_eq_true rfl) (fun X _ Z hA hE => m11_kept_ok ⟨Z, hcn, hA⟩ hE x1 M h)
abbrev q10_add : ByteArray × Nat × String × zT := (cX10_add, 2, RX10, tbX10)
def m10_add (x1 : Int32) (M : cM) : Option cM := (if (cg M 10 0 1) < (120 : Int32) then zgd (zin (cg M 10 0 1) 120 && true) (some (cs (cs M 1100 0 (nx (cg M 10 0 1)) x1) 10 0 1 ((cg (cs M 1100 0 (nx (cg M 10 0 1)) x1) 10 0 1) + (1 : Int32)))) else some M)
theorem m10_add_ok {X : zX} {G : zG} (Hy : zHy X G q10_add zcC 0 0 (none)) {M' : cM} (hE : zEnd X G (none) (zfC M')) (x1 : Int32) (M : cM) (h : m10_add x1 M = some M') : zGo (X, q10_add, G) 0 0 (0, [(0, .inr (.inr (some (10, 0)))), (1, .inl x1)], [], zfC M) := by
  unfold m10_add at h
  refine zblq Hy.1 Hy.2.1 [(.aload 0, 1), (.multianewarray 10 1, 3), (.iconst 120, 2)] (S' := (6, [(0, .inr (.inr (some (10, 0)))), (1, .inl x1)], [.inl (120 : Int32), .inl (cg M 10 0 1)], zfC M)) (b := true) (by decide +kernel) rfl rfl ?_
  refine zic_lt Hy.1 (off := 4) (tgt := 10) (by decide +kernel) (by decide) (fun hb2 => ?_) (fun hb2 => ?_)
  · replace h := zite_t h hb2
    obtain ⟨hg1, h⟩ := zgd_inv h
    refine zblq Hy.1 Hy.2.1 [(.aload 0, 1), (.getfield 1000, 3), (.aload 0, 1), (.multianewarray 10 1, 3), (.iload 1, 1), (.iastore, 1), (.aload 0, 1), (.dup, 1), (.multianewarray 10 1, 3), (.iconst 1, 1), (.iadd, 1), (.invokeinterface 10 1, 3)] (S' := (30, [(0, .inr (.inr (some (10, 0)))), (1, .inl x1)], [], zfC (cs (cs M 1100 0 (nx (cg M 10 0 1)) x1) 10 0 1 ((cg (cs M 1100 0 (nx (cg M 10 0 1)) x1) 10 0 1) + (1 : Int32))))) (b := zin (cg M 10 0 1) 120 && true) (by decide +kernel) rfl hg1 ?_
    cases h
    exact zret_v Hy.1 Hy.2.2 hE (by decide +kernel)
  · replace h := zite_f h hb2
    cases h
    exact zret_v Hy.1 Hy.2.2 hE (by decide +kernel)
theorem m10_add_met {l : Launch} {G : zG} (hG : zGok G) (hcn : zgcn G = zcC) {x1 : Int32} {M : cM} {M' : cM} (h : m10_add x1 M = some M') : zMet l G yX10_add cX10_add 2 (none) 0 0 [.inr (.inr (some (10, 0))), .inl x1] (zfC M) (none) (zfC M') :=
  zMet_of hG tbX10_ok rfl (by decide +kernel) (Nat.le_of_ble_eq_true rfl) (fun X _ Z hA hE => m10_add_ok ⟨Z, hcn, hA⟩ hE x1 M h)
abbrev q11_write : ByteArray × Nat × String × zT := (cX11_write, 5, RX11, tbX11)
def m11_write_33 : Nat → Int64 → Int32 → Int32 → cM → Option (Int32 × cM)
  | 0, _, _, _, _ => none
  | n + 1, x1, x3, x4, M => (if x3 ≤ x4 then some (cg M 10 0 1, M) else zbv (m10_add (Int64.toInt32 ((zshrL x1 ((8 : Int32) * x4)) &&& (255 : Int64))) M) (fun M2 => (m11_write_33 n) x1 x3 (x4 + (1 : Int32)) M2))
theorem m11_write_33_ok {X : zX} {G : zG} (Hy : zHy X G q11_write zcC 1 22 (some .int)) {r : Int32} {M' : cM} (hE : zEnd X G (some (.inl r)) (zfC M')) : ∀ (n : Nat) (x1 : Int64) (x3 : Int32) (x4 : Int32) (M : cM), m11_write_33 n x1 x3 x4 M = some (r, M') → zGo (X, q11_write, G) 0 0 (33, [(0, .inr (.inr (some (11, 0)))), (1, .inr (.inl x1)), (3, .inl x3), (4, .inl x4)], [], zfC M) := by
  intro n
  induction n with
  | zero => intro x1 x3 x4 M h; cases h
  | succ n ih =>
    intro x1 x3 x4 M h
    unfold m11_write_33 at h
    refine zblq Hy.1 Hy.2.1 [(.iload 4, 2), (.iload 3, 1)] (S' := (36, [(0, .inr (.inr (some (11, 0)))), (1, .inr (.inl x1)), (3, .inl x3), (4, .inl x4)], [.inl x3, .inl x4], zfC M)) (b := true) (by decide +kernel) rfl rfl ?_
    refine zic_ge Hy.1 (off := 28) (tgt := 64) (by decide +kernel) (by decide) (fun hb3 => ?_) (fun hb3 => ?_)
    · replace h := zite_t h hb3
      refine zblq Hy.1 Hy.2.1 [(.aload 0, 1), (.getfield 1101, 3), (.multianewarray 10 1, 3)] (S' := (71, [(0, .inr (.inr (some (11, 0)))), (1, .inr (.inl x1)), (3, .inl x3), (4, .inl x4)], [.inl (cg M 10 0 1)], zfC M)) (b := true) (by decide +kernel) rfl rfl ?_
      cases h
      exact zret_i Hy.1 Hy.2.2 hE (by decide +kernel)
    · replace h := zite_f h hb3
      refine zblq Hy.1 Hy.2.1 [(.aload 0, 1), (.getfield 1101, 3), (.lload 1, 1), (.iconst 8, 2), (.iload 4, 2), (.imul, 1), (.lshr, 1), (.goto_w 255, 3), (.land, 1), (.l2i, 1)] (S' := (55, [(0, .inr (.inr (some (11, 0)))), (1, .inr (.inl x1)), (3, .inl x3), (4, .inl x4)], [.inl (Int64.toInt32 ((zshrL x1 ((8 : Int32) * x4)) &&& (255 : Int64))), .inr (.inr (some (10, 0)))], zfC M)) (b := true) (by decide +kernel) rfl rfl ?_
      obtain ⟨M2, hc2, h⟩ := zbv_inv h
      refine zcallV Hy.1 (as := [.inl (Int64.toInt32 ((zshrL x1 ((8 : Int32) * x4)) &&& (255 : Int64)))]) (st := []) (m10_add_met (zOK_G Hy.1) Hy.2.1 hc2) cw11_169 m10_add_in m10_add_se (by decide) (zhlv Hy.2.1 rfl) rfl (zroom Hy.2.2 ⟨by decide, by decide⟩) rfl (by decide +kernel) ⟨Nat.zero_le _, Nat.zero_le _⟩ ?_
      refine zblq Hy.1 Hy.2.1 [(.iinc 4 1, 3), (.ldc 33, 3)] (S' := (33, [(0, .inr (.inr (some (11, 0)))), (1, .inr (.inl x1)), (3, .inl x3), (4, .inl (x4 + (1 : Int32)))], [], zfC M2)) (b := true) (by decide +kernel) rfl rfl ?_
      refine zGo_keep [0, 1, 3, 4] rfl ?_
      exact ih x1 x3 (x4 + (1 : Int32)) M2 h
def m11_write (x1 : Int64) (x3 : Int32) (M : cM) : Option (Int32 × cM) := zbd (m11_outside x3 (1 : Int32) (8 : Int32) M) (fun r1 M1 => (if r1 = 0 then (if ((cg M1 10 0 1) + x3) ≤ (120 : Int32) then m11_write_33 zfu x1 x3 (0 : Int32) M1 else some ((-5 : Int32), M1)) else some ((-3 : Int32), M1)))
theorem m11_write_ok {X : zX} {G : zG} (Hy : zHy X G q11_write zcC 1 22 (some .int)) {r : Int32} {M' : cM} (hE : zEnd X G (some (.inl r)) (zfC M')) (x1 : Int64) (x3 : Int32) (M : cM) (h : m11_write x1 x3 M = some (r, M')) : zGo (X, q11_write, G) 0 0 (0, [(0, .inr (.inr (some (11, 0)))), (1, .inr (.inl x1)), (3, .inl x3)], [], zfC M) := by
  unfold m11_write at h
  refine zblq Hy.1 Hy.2.1 [(.iload 3, 1), (.iconst 1, 1), (.iconst 8, 2)] (S' := (4, [(0, .inr (.inr (some (11, 0)))), (1, .inr (.inl x1)), (3, .inl x3)], [.inl (8 : Int32), .inl (1 : Int32), .inl x3], zfC M)) (b := true) (by decide +kernel) rfl rfl ?_
  obtain ⟨r1, M1, hc1, h⟩ := zbd_inv h
  refine zcallS Hy.1 (as := [.inl x3, .inl (1 : Int32), .inl (8 : Int32)]) (st := []) (m11_outside_met (zOK_G Hy.1) Hy.2.1 hc1) cw11_66 m11_outside_in rfl (zroom Hy.2.2 ⟨by decide, by decide⟩) rfl (by decide +kernel) ⟨Nat.zero_le _, Nat.zero_le _⟩ ?_
  refine zif_eq Hy.1 (off := 6) (tgt := 13) (by decide +kernel) (by decide) (fun hb5 => ?_) (fun hb5 => ?_)
  · replace h := zite_t h hb5
    refine zblq Hy.1 Hy.2.1 [(.aload 0, 1), (.getfield 1101, 3), (.multianewarray 10 1, 3), (.iload 3, 1), (.iadd, 1), (.iconst 120, 2)] (S' := (24, [(0, .inr (.inr (some (11, 0)))), (1, .inr (.inl x1)), (3, .inl x3)], [.inl (120 : Int32), .inl ((cg M1 10 0 1) + x3)], zfC M1)) (b := true) (by decide +kernel) rfl rfl ?_
    refine zic_le Hy.1 (off := 6) (tgt := 30) (by decide +kernel) (by decide) (fun hb4 => ?_) (fun hb4 => ?_)
    · replace h := zite_t h hb4
      refine zblq Hy.1 Hy.2.1 [(.iconst 0, 1), (.istore 4, 2)] (S' := (33, [(0, .inr (.inr (some (11, 0)))), (1, .inr (.inl x1)), (3, .inl x3), (4, .inl (0 : Int32))], [], zfC M1)) (b := true) (by decide +kernel) rfl rfl ?_
      refine zGo_keep [0, 1, 3, 4] rfl ?_
      exact m11_write_33_ok Hy hE zfu x1 x3 (0 : Int32) M1 h
    · replace h := zite_f h hb4
      refine zblq Hy.1 Hy.2.1 [(.iconst (-5), 2)] (S' := (29, [(0, .inr (.inr (some (11, 0)))), (1, .inr (.inl x1)), (3, .inl x3)], [.inl (-5 : Int32)], zfC M1)) (b := true) (by decide +kernel) rfl rfl ?_
      cases h
      exact zret_i Hy.1 Hy.2.2 hE (by decide +kernel)
  · replace h := zite_f h hb5
    refine zblq Hy.1 Hy.2.1 [(.iconst (-3), 2)] (S' := (12, [(0, .inr (.inr (some (11, 0)))), (1, .inr (.inl x1)), (3, .inl x3)], [.inl (-3 : Int32)], zfC M1)) (b := true) (by decide +kernel) rfl rfl ?_
    cases h
    exact zret_i Hy.1 Hy.2.2 hE (by decide +kernel)
theorem m11_write_met {l : Launch} {G : zG} (hG : zGok G) (hcn : zgcn G = zcC) {x1 : Int64} {x3 : Int32} {M : cM} {r : Int32} {M' : cM} (h : m11_write x1 x3 M = some (r, M')) : zMet l G yX11_write cX11_write 5 (some .int) 1 22 [.inr (.inr (some (11, 0))), .inr (.inl x1), .inl x3] (zfC M) (some (.inl r)) (zfC M') :=
  zMet_of hG tbX11_ok rfl (by decide +kernel) (Nat.le_of_ble_eq_true rfl) (fun X _ Z hA hE => m11_write_ok ⟨Z, hcn, hA⟩ hE x1 x3 M h)
abbrev q11_erase : ByteArray × Nat × String × zT := (cX11_erase, 2, RX11, tbX11)
def m11_erase  (M : cM) : Option (Int32 × cM) := some (cg M 10 0 1, cs M 10 0 1 (0 : Int32))
theorem m11_erase_ok {X : zX} {G : zG} (Hy : zHy X G q11_erase zcC 0 0 (some .int)) {r : Int32} {M' : cM} (hE : zEnd X G (some (.inl r)) (zfC M'))  (M : cM) (h : m11_erase M = some (r, M')) : zGo (X, q11_erase, G) 0 0 (0, [(0, .inr (.inr (some (11, 0))))], [], zfC M) := by
  unfold m11_erase at h
  refine zblq Hy.1 Hy.2.1 [(.aload 0, 1), (.getfield 1101, 3), (.multianewarray 10 1, 3), (.istore 1, 1), (.aload 0, 1), (.getfield 1101, 3), (.iconst 0, 1), (.invokeinterface 10 1, 3), (.iload 1, 1)] (S' := (17, [(0, .inr (.inr (some (11, 0)))), (1, .inl (cg M 10 0 1))], [.inl (cg M 10 0 1)], zfC (cs M 10 0 1 (0 : Int32)))) (b := true) (by decide +kernel) rfl rfl ?_
  cases h
  exact zret_i Hy.1 Hy.2.2 hE (by decide +kernel)
theorem m11_erase_met {l : Launch} {G : zG} (hG : zGok G) (hcn : zgcn G = zcC)  {M : cM} {r : Int32} {M' : cM} (h : m11_erase M = some (r, M')) : zMet l G yX11_erase cX11_erase 2 (some .int) 0 0 [.inr (.inr (some (11, 0)))] (zfC M) (some (.inl r)) (zfC M') :=
  zMet_of hG tbX11_ok rfl (by decide +kernel) (Nat.le_of_ble_eq_true rfl) (fun X _ Z hA hE => m11_erase_ok ⟨Z, hcn, hA⟩ hE M h)
abbrev q7_clear : ByteArray × Nat × String × zT := (cX7_clear, 1, RX7, tbX7)
def m7_clear (i0 : Nat) (M : cM) : Option cM := zgd ((Nat.blt i0 2 && true) && ((Nat.blt i0 2 && true) && ((Nat.blt i0 2 && true) && true))) (some (cs (cs (cs M 7 i0 0 (0 : Int32)) 7 i0 1 (0 : Int32)) 7 i0 2 (0 : Int32)))
theorem m7_clear_ok {X : zX} {G : zG} (Hy : zHy X G q7_clear zcC 0 0 (none)) {M' : cM} (hE : zEnd X G (none) (zfC M')) (i0 : Nat) (M : cM) (h : m7_clear i0 M = some M') : zGo (X, q7_clear, G) 0 0 (0, [(0, .inr (.inr (some (7, i0))))], [], zfC M) := by
  unfold m7_clear at h
  obtain ⟨hg1, h⟩ := zgd_inv h
  refine zblq Hy.1 Hy.2.1 [(.aload 0, 1), (.iconst 0, 1), (.invokeinterface 7 0, 3), (.aload 0, 1), (.iconst 0, 1), (.invokeinterface 7 1, 3), (.aload 0, 1), (.iconst 0, 1), (.invokeinterface 7 2, 3)] (S' := (15, [(0, .inr (.inr (some (7, i0))))], [], zfC (cs (cs (cs M 7 i0 0 (0 : Int32)) 7 i0 1 (0 : Int32)) 7 i0 2 (0 : Int32)))) (b := (Nat.blt i0 2 && true) && ((Nat.blt i0 2 && true) && ((Nat.blt i0 2 && true) && true))) (by decide +kernel) rfl hg1 ?_
  cases h
  exact zret_v Hy.1 Hy.2.2 hE (by decide +kernel)
theorem m7_clear_met {l : Launch} {G : zG} (hG : zGok G) (hcn : zgcn G = zcC) {i0 : Nat} {M : cM} {M' : cM} (h : m7_clear i0 M = some M') : zMet l G yX7_clear cX7_clear 1 (none) 0 0 [.inr (.inr (some (7, i0)))] (zfC M) (none) (zfC M') :=
  zMet_of hG tbX7_ok rfl (by decide +kernel) (Nat.le_of_ble_eq_true rfl) (fun X _ Z hA hE => m7_clear_ok ⟨Z, hcn, hA⟩ hE i0 M h)
abbrev q10_byteAt : ByteArray × Nat × String × zT := (cX10_byteAt, 2, RX10, tbX10)
def m10_byteAt (x1 : Int32) (M : cM) : Option (Int32 × cM) := (if x1 < 0 then some ((0 : Int32), M) else (if (120 : Int32) ≤ x1 then some ((0 : Int32), M) else zgd (zin x1 120 && true) (some (cg M 1100 0 (nx x1), M))))
theorem m10_byteAt_ok {X : zX} {G : zG} (Hy : zHy X G q10_byteAt zcC 0 0 (some .int)) {r : Int32} {M' : cM} (hE : zEnd X G (some (.inl r)) (zfC M')) (x1 : Int32) (M : cM) (h : m10_byteAt x1 M = some (r, M')) : zGo (X, q10_byteAt, G) 0 0 (0, [(0, .inr (.inr (some (10, 0)))), (1, .inl x1)], [], zfC M) := by
  unfold m10_byteAt at h
  refine zblq Hy.1 Hy.2.1 [(.iload 1, 1)] (S' := (1, [(0, .inr (.inr (some (10, 0)))), (1, .inl x1)], [.inl x1], zfC M)) (b := true) (by decide +kernel) rfl rfl ?_
  refine zif_lt Hy.1 (off := 18) (tgt := 19) (by decide +kernel) (by decide) (fun hb3 => ?_) (fun hb3 => ?_)
  · replace h := zite_t h hb3
    refine zblq Hy.1 Hy.2.1 [(.iconst 0, 1)] (S' := (20, [(0, .inr (.inr (some (10, 0)))), (1, .inl x1)], [.inl (0 : Int32)], zfC M)) (b := true) (by decide +kernel) rfl rfl ?_
    cases h
    exact zret_i Hy.1 Hy.2.2 hE (by decide +kernel)
  · replace h := zite_f h hb3
    refine zblq Hy.1 Hy.2.1 [(.iload 1, 1), (.iconst 120, 2)] (S' := (7, [(0, .inr (.inr (some (10, 0)))), (1, .inl x1)], [.inl (120 : Int32), .inl x1], zfC M)) (b := true) (by decide +kernel) rfl rfl ?_
    refine zic_ge Hy.1 (off := 12) (tgt := 19) (by decide +kernel) (by decide) (fun hb2 => ?_) (fun hb2 => ?_)
    · replace h := zite_t h hb2
      refine zblq Hy.1 Hy.2.1 [(.iconst 0, 1)] (S' := (20, [(0, .inr (.inr (some (10, 0)))), (1, .inl x1)], [.inl (0 : Int32)], zfC M)) (b := true) (by decide +kernel) rfl rfl ?_
      cases h
      exact zret_i Hy.1 Hy.2.2 hE (by decide +kernel)
    · replace h := zite_f h hb2
      obtain ⟨hg1, h⟩ := zgd_inv h
      refine zblq Hy.1 Hy.2.1 [(.aload 0, 1), (.getfield 1000, 3), (.iload 1, 1), (.iaload, 1), (.ldc 20, 3)] (S' := (20, [(0, .inr (.inr (some (10, 0)))), (1, .inl x1)], [.inl (cg M 1100 0 (nx x1))], zfC M)) (b := zin x1 120 && true) (by decide +kernel) rfl hg1 ?_
      cases h
      exact zret_i Hy.1 Hy.2.2 hE (by decide +kernel)
theorem m10_byteAt_met {l : Launch} {G : zG} (hG : zGok G) (hcn : zgcn G = zcC) {x1 : Int32} {M : cM} {r : Int32} {M' : cM} (h : m10_byteAt x1 M = some (r, M')) : zMet l G yX10_byteAt cX10_byteAt 2 (some .int) 0 0 [.inr (.inr (some (10, 0))), .inl x1] (zfC M) (some (.inl r)) (zfC M') :=
  zMet_of hG tbX10_ok rfl (by decide +kernel) (Nat.le_of_ble_eq_true rfl) (fun X _ Z hA hE => m10_byteAt_ok ⟨Z, hcn, hA⟩ hE x1 M h)
abbrev q10_kindOf : ByteArray × Nat × String × zT := (cX10_kindOf, 1, RX10, tbX10)
def m10_kindOf_14 (x0 : Int32) (M : cM) : Option (Int32 × cM) := (if x0 < (48 : Int32) then some ((0 : Int32), M) else (if (57 : Int32) < x0 then some ((0 : Int32), M) else some ((2 : Int32), M)))
theorem m10_kindOf_14_ok {X : zX} {G : zG} (Hy : zHy X G q10_kindOf zcC 0 0 (some .int)) {r : Int32} {M' : cM} (hE : zEnd X G (some (.inl r)) (zfC M')) (x0 : Int32) (M : cM) (h : m10_kindOf_14 x0 M = some (r, M')) : zGo (X, q10_kindOf, G) 0 0 (14, [(0, .inl x0)], [], zfC M) := by
  unfold m10_kindOf_14 at h
  refine zblq Hy.1 Hy.2.1 [(.iload 0, 1), (.iconst 48, 2)] (S' := (17, [(0, .inl x0)], [.inl (48 : Int32), .inl x0], zfC M)) (b := true) (by decide +kernel) rfl rfl ?_
  refine zic_lt Hy.1 (off := 13) (tgt := 30) (by decide +kernel) (by decide) (fun hb2 => ?_) (fun hb2 => ?_)
  · replace h := zite_t h hb2
    refine zblq Hy.1 Hy.2.1 [(.iconst 0, 1)] (S' := (31, [(0, .inl x0)], [.inl (0 : Int32)], zfC M)) (b := true) (by decide +kernel) rfl rfl ?_
    cases h
    exact zret_i Hy.1 Hy.2.2 hE (by decide +kernel)
  · replace h := zite_f h hb2
    refine zblq Hy.1 Hy.2.1 [(.iload 0, 1), (.iconst 57, 2)] (S' := (23, [(0, .inl x0)], [.inl (57 : Int32), .inl x0], zfC M)) (b := true) (by decide +kernel) rfl rfl ?_
    refine zic_gt Hy.1 (off := 7) (tgt := 30) (by decide +kernel) (by decide) (fun hb1 => ?_) (fun hb1 => ?_)
    · replace h := zite_t h hb1
      refine zblq Hy.1 Hy.2.1 [(.iconst 0, 1)] (S' := (31, [(0, .inl x0)], [.inl (0 : Int32)], zfC M)) (b := true) (by decide +kernel) rfl rfl ?_
      cases h
      exact zret_i Hy.1 Hy.2.2 hE (by decide +kernel)
    · replace h := zite_f h hb1
      refine zblq Hy.1 Hy.2.1 [(.iconst 2, 1), (.ldc 31, 3)] (S' := (31, [(0, .inl x0)], [.inl (2 : Int32)], zfC M)) (b := true) (by decide +kernel) rfl rfl ?_
      cases h
      exact zret_i Hy.1 Hy.2.2 hE (by decide +kernel)
def m10_kindOf (x0 : Int32) (M : cM) : Option (Int32 × cM) := (if x0 < (97 : Int32) then m10_kindOf_14 x0 M else (if (122 : Int32) < x0 then m10_kindOf_14 x0 M else some ((1 : Int32), M)))
theorem m10_kindOf_ok {X : zX} {G : zG} (Hy : zHy X G q10_kindOf zcC 0 0 (some .int)) {r : Int32} {M' : cM} (hE : zEnd X G (some (.inl r)) (zfC M')) (x0 : Int32) (M : cM) (h : m10_kindOf x0 M = some (r, M')) : zGo (X, q10_kindOf, G) 0 0 (0, [(0, .inl x0)], [], zfC M) := by
  unfold m10_kindOf at h
  refine zblq Hy.1 Hy.2.1 [(.iload 0, 1), (.iconst 97, 2)] (S' := (3, [(0, .inl x0)], [.inl (97 : Int32), .inl x0], zfC M)) (b := true) (by decide +kernel) rfl rfl ?_
  refine zic_lt Hy.1 (off := 11) (tgt := 14) (by decide +kernel) (by decide) (fun hb4 => ?_) (fun hb4 => ?_)
  · replace h := zite_t h hb4
    refine zGo_keep [0] rfl ?_
    exact m10_kindOf_14_ok Hy hE x0 M h
  · replace h := zite_f h hb4
    refine zblq Hy.1 Hy.2.1 [(.iload 0, 1), (.iconst 122, 2)] (S' := (9, [(0, .inl x0)], [.inl (122 : Int32), .inl x0], zfC M)) (b := true) (by decide +kernel) rfl rfl ?_
    refine zic_gt Hy.1 (off := 5) (tgt := 14) (by decide +kernel) (by decide) (fun hb3 => ?_) (fun hb3 => ?_)
    · replace h := zite_t h hb3
      refine zGo_keep [0] rfl ?_
      exact m10_kindOf_14_ok Hy hE x0 M h
    · replace h := zite_f h hb3
      refine zblq Hy.1 Hy.2.1 [(.iconst 1, 1)] (S' := (13, [(0, .inl x0)], [.inl (1 : Int32)], zfC M)) (b := true) (by decide +kernel) rfl rfl ?_
      cases h
      exact zret_i Hy.1 Hy.2.2 hE (by decide +kernel)
theorem m10_kindOf_met {l : Launch} {G : zG} (hG : zGok G) (hcn : zgcn G = zcC) {x0 : Int32} {M : cM} {r : Int32} {M' : cM} (h : m10_kindOf x0 M = some (r, M')) : zMet l G yX10_kindOf cX10_kindOf 1 (some .int) 0 0 [.inl x0] (zfC M) (some (.inl r)) (zfC M') :=
  zMet_of hG tbX10_ok rfl (by decide +kernel) (Nat.le_of_ble_eq_true rfl) (fun X _ Z hA hE => m10_kindOf_ok ⟨Z, hcn, hA⟩ hE x0 M h)
abbrev q10_nextToken : ByteArray × Nat × String × zT := (cX10_nextToken, 2, RX10, tbX10)
def m10_nextToken_87 : Nat → Int32 → cM → Option cM
  | 0, _, _ => none
  | n + 1, x1, M => (if (cg M 10 0 1) ≤ (cg M 10 0 3) then some M else (if x1 = 0 then some M else zbd (m10_byteAt (cg M 10 0 3) M) (fun r3 M3 => zbd (m10_kindOf r3 M3) (fun r4 M4 => (if r4 = x1 then (m10_nextToken_87 n) x1 (cs M4 10 0 3 ((cg M4 10 0 3) + (1 : Int32))) else some M4)))))
theorem m10_nextToken_87_ok {X : zX} {G : zG} (Hy : zHy X G q10_nextToken zcC 1 21 (none)) {M' : cM} (hE : zEnd X G (none) (zfC M')) : ∀ (n : Nat) (x1 : Int32) (M : cM), m10_nextToken_87 n x1 M = some M' → zGo (X, q10_nextToken, G) 0 0 (87, [(0, .inr (.inr (some (10, 0)))), (1, .inl x1)], [], zfC M) := by
  intro n
  induction n with
  | zero => intro x1 M h; cases h
  | succ n ih =>
    intro x1 M h
    unfold m10_nextToken_87 at h
    refine zblq Hy.1 Hy.2.1 [(.aload 0, 1), (.multianewarray 10 3, 3), (.aload 0, 1), (.multianewarray 10 1, 3)] (S' := (95, [(0, .inr (.inr (some (10, 0)))), (1, .inl x1)], [.inl (cg M 10 0 1), .inl (cg M 10 0 3)], zfC M)) (b := true) (by decide +kernel) rfl rfl ?_
    refine zic_ge Hy.1 (off := 35) (tgt := 130) (by decide +kernel) (by decide) (fun hb7 => ?_) (fun hb7 => ?_)
    · replace h := zite_t h hb7
      cases h
      exact zret_v Hy.1 Hy.2.2 hE (by decide +kernel)
    · replace h := zite_f h hb7
      refine zblq Hy.1 Hy.2.1 [(.iload 1, 1)] (S' := (99, [(0, .inr (.inr (some (10, 0)))), (1, .inl x1)], [.inl x1], zfC M)) (b := true) (by decide +kernel) rfl rfl ?_
      refine zif_eq Hy.1 (off := 31) (tgt := 130) (by decide +kernel) (by decide) (fun hb6 => ?_) (fun hb6 => ?_)
      · replace h := zite_t h hb6
        cases h
        exact zret_v Hy.1 Hy.2.2 hE (by decide +kernel)
      · replace h := zite_f h hb6
        refine zblq Hy.1 Hy.2.1 [(.aload 0, 1), (.aload 0, 1), (.multianewarray 10 3, 3)] (S' := (107, [(0, .inr (.inr (some (10, 0)))), (1, .inl x1)], [.inl (cg M 10 0 3), .inr (.inr (some (10, 0)))], zfC M)) (b := true) (by decide +kernel) rfl rfl ?_
        obtain ⟨r3, M3, hc3, h⟩ := zbd_inv h
        refine zcallV Hy.1 (as := [.inl (cg M 10 0 3)]) (st := []) (m10_byteAt_met (zOK_G Hy.1) Hy.2.1 hc3) cw10_90 m10_byteAt_in m10_byteAt_se (by decide) (zhlv Hy.2.1 rfl) rfl (zroom Hy.2.2 ⟨by decide, by decide⟩) rfl (by decide +kernel) ⟨Nat.zero_le _, Nat.zero_le _⟩ ?_
        obtain ⟨r4, M4, hc4, h⟩ := zbd_inv h
        refine zcallS Hy.1 (as := [.inl r3]) (st := []) (m10_kindOf_met (zOK_G Hy.1) Hy.2.1 hc4) cw10_94 m10_kindOf_in rfl (zroom Hy.2.2 ⟨by decide, by decide⟩) rfl (by decide +kernel) ⟨Nat.zero_le _, Nat.zero_le _⟩ ?_
        refine zblq Hy.1 Hy.2.1 [(.iload 1, 1)] (S' := (114, [(0, .inr (.inr (some (10, 0)))), (1, .inl x1)], [.inl x1, .inl r4], zfC M4)) (b := true) (by decide +kernel) rfl rfl ?_
        refine zic_ne Hy.1 (off := 16) (tgt := 130) (by decide +kernel) (by decide) (fun hb5 => ?_) (fun hb5 => ?_)
        · replace h := zite_f h hb5
          cases h
          exact zret_v Hy.1 Hy.2.2 hE (by decide +kernel)
        · replace h := zite_t h hb5
          refine zblq Hy.1 Hy.2.1 [(.aload 0, 1), (.dup, 1), (.multianewarray 10 3, 3), (.iconst 1, 1), (.iadd, 1), (.invokeinterface 10 3, 3), (.ldc 87, 3)] (S' := (87, [(0, .inr (.inr (some (10, 0)))), (1, .inl x1)], [], zfC (cs M4 10 0 3 ((cg M4 10 0 3) + (1 : Int32))))) (b := true) (by decide +kernel) rfl rfl ?_
          refine zGo_keep [0, 1] rfl ?_
          exact ih x1 (cs M4 10 0 3 ((cg M4 10 0 3) + (1 : Int32))) h
def m10_nextToken_45  (M : cM) : Option cM := (if (cg (cs M 10 0 3 (cg M 10 0 2)) 10 0 2) < (cg (cs M 10 0 3 (cg M 10 0 2)) 10 0 1) then zbd (m10_byteAt (cg (cs M 10 0 3 (cg M 10 0 2)) 10 0 2) (cs M 10 0 3 (cg M 10 0 2))) (fun r1 M1 => zbd (m10_kindOf r1 M1) (fun r2 M2 => m10_nextToken_87 zfu r2 (cs M2 10 0 3 ((cg M2 10 0 3) + (1 : Int32))))) else some (cs M 10 0 3 (cg M 10 0 2)))
theorem m10_nextToken_45_ok {X : zX} {G : zG} (Hy : zHy X G q10_nextToken zcC 1 21 (none)) {M' : cM} (hE : zEnd X G (none) (zfC M'))  (M : cM) (h : m10_nextToken_45 M = some M') : zGo (X, q10_nextToken, G) 0 0 (45, [(0, .inr (.inr (some (10, 0))))], [], zfC M) := by
  unfold m10_nextToken_45 at h
  refine zblq Hy.1 Hy.2.1 [(.aload 0, 1), (.aload 0, 1), (.multianewarray 10 2, 3), (.invokeinterface 10 3, 3), (.aload 0, 1), (.multianewarray 10 2, 3), (.aload 0, 1), (.multianewarray 10 1, 3)] (S' := (61, [(0, .inr (.inr (some (10, 0))))], [.inl (cg (cs M 10 0 3 (cg M 10 0 2)) 10 0 1), .inl (cg (cs M 10 0 3 (cg M 10 0 2)) 10 0 2)], zfC (cs M 10 0 3 (cg M 10 0 2)))) (b := true) (by decide +kernel) rfl rfl ?_
  refine zic_lt Hy.1 (off := 4) (tgt := 65) (by decide +kernel) (by decide) (fun hb8 => ?_) (fun hb8 => ?_)
  · replace h := zite_t h hb8
    refine zblq Hy.1 Hy.2.1 [(.aload 0, 1), (.aload 0, 1), (.multianewarray 10 2, 3)] (S' := (70, [(0, .inr (.inr (some (10, 0))))], [.inl (cg (cs M 10 0 3 (cg M 10 0 2)) 10 0 2), .inr (.inr (some (10, 0)))], zfC (cs M 10 0 3 (cg M 10 0 2)))) (b := true) (by decide +kernel) rfl rfl ?_
    obtain ⟨r1, M1, hc1, h⟩ := zbd_inv h
    refine zcallV Hy.1 (as := [.inl (cg (cs M 10 0 3 (cg M 10 0 2)) 10 0 2)]) (st := []) (m10_byteAt_met (zOK_G Hy.1) Hy.2.1 hc1) cw10_90 m10_byteAt_in m10_byteAt_se (by decide) (zhlv Hy.2.1 rfl) rfl (zroom Hy.2.2 ⟨by decide, by decide⟩) rfl (by decide +kernel) ⟨Nat.zero_le _, Nat.zero_le _⟩ ?_
    obtain ⟨r2, M2, hc2, h⟩ := zbd_inv h
    refine zcallS Hy.1 (as := [.inl r1]) (st := []) (m10_kindOf_met (zOK_G Hy.1) Hy.2.1 hc2) cw10_94 m10_kindOf_in rfl (zroom Hy.2.2 ⟨by decide, by decide⟩) rfl (by decide +kernel) ⟨Nat.zero_le _, Nat.zero_le _⟩ ?_
    refine zblq Hy.1 Hy.2.1 [(.istore 1, 1), (.aload 0, 1), (.dup, 1), (.multianewarray 10 3, 3), (.iconst 1, 1), (.iadd, 1), (.invokeinterface 10 3, 3)] (S' := (87, [(0, .inr (.inr (some (10, 0)))), (1, .inl r2)], [], zfC (cs M2 10 0 3 ((cg M2 10 0 3) + (1 : Int32))))) (b := true) (by decide +kernel) rfl rfl ?_
    refine zGo_keep [0, 1] rfl ?_
    exact m10_nextToken_87_ok Hy hE zfu r2 (cs M2 10 0 3 ((cg M2 10 0 3) + (1 : Int32))) h
  · replace h := zite_f h hb8
    cases h
    exact zret_v Hy.1 Hy.2.2 hE (by decide +kernel)
def m10_nextToken_8 : Nat → cM → Option cM
  | 0, _ => none
  | n + 1, M => (if (cg M 10 0 1) ≤ (cg M 10 0 2) then m10_nextToken_45 M else zbd (m10_byteAt (cg M 10 0 2) M) (fun r9 M9 => (if r9 = (32 : Int32) then (m10_nextToken_8 n) (cs M9 10 0 2 ((cg M9 10 0 2) + (1 : Int32))) else m10_nextToken_45 M9)))
theorem m10_nextToken_8_ok {X : zX} {G : zG} (Hy : zHy X G q10_nextToken zcC 1 21 (none)) {M' : cM} (hE : zEnd X G (none) (zfC M')) : ∀ (n : Nat)  (M : cM), m10_nextToken_8 n M = some M' → zGo (X, q10_nextToken, G) 0 0 (8, [(0, .inr (.inr (some (10, 0))))], [], zfC M) := by
  intro n
  induction n with
  | zero => intro M h; cases h
  | succ n ih =>
    intro M h
    unfold m10_nextToken_8 at h
    refine zblq Hy.1 Hy.2.1 [(.aload 0, 1), (.multianewarray 10 2, 3), (.aload 0, 1), (.multianewarray 10 1, 3)] (S' := (16, [(0, .inr (.inr (some (10, 0))))], [.inl (cg M 10 0 1), .inl (cg M 10 0 2)], zfC M)) (b := true) (by decide +kernel) rfl rfl ?_
    refine zic_ge Hy.1 (off := 29) (tgt := 45) (by decide +kernel) (by decide) (fun hb11 => ?_) (fun hb11 => ?_)
    · replace h := zite_t h hb11
      refine zGo_keep [0] rfl ?_
      exact m10_nextToken_45_ok Hy hE M h
    · replace h := zite_f h hb11
      refine zblq Hy.1 Hy.2.1 [(.aload 0, 1), (.aload 0, 1), (.multianewarray 10 2, 3)] (S' := (24, [(0, .inr (.inr (some (10, 0))))], [.inl (cg M 10 0 2), .inr (.inr (some (10, 0)))], zfC M)) (b := true) (by decide +kernel) rfl rfl ?_
      obtain ⟨r9, M9, hc9, h⟩ := zbd_inv h
      refine zcallV Hy.1 (as := [.inl (cg M 10 0 2)]) (st := []) (m10_byteAt_met (zOK_G Hy.1) Hy.2.1 hc9) cw10_90 m10_byteAt_in m10_byteAt_se (by decide) (zhlv Hy.2.1 rfl) rfl (zroom Hy.2.2 ⟨by decide, by decide⟩) rfl (by decide +kernel) ⟨Nat.zero_le _, Nat.zero_le _⟩ ?_
      refine zblq Hy.1 Hy.2.1 [(.iconst 32, 2)] (S' := (29, [(0, .inr (.inr (some (10, 0))))], [.inl (32 : Int32), .inl r9], zfC M9)) (b := true) (by decide +kernel) rfl rfl ?_
      refine zic_ne Hy.1 (off := 16) (tgt := 45) (by decide +kernel) (by decide) (fun hb10 => ?_) (fun hb10 => ?_)
      · replace h := zite_f h hb10
        refine zGo_keep [0] rfl ?_
        exact m10_nextToken_45_ok Hy hE M9 h
      · replace h := zite_t h hb10
        refine zblq Hy.1 Hy.2.1 [(.aload 0, 1), (.dup, 1), (.multianewarray 10 2, 3), (.iconst 1, 1), (.iadd, 1), (.invokeinterface 10 2, 3), (.ldc 8, 3)] (S' := (8, [(0, .inr (.inr (some (10, 0))))], [], zfC (cs M9 10 0 2 ((cg M9 10 0 2) + (1 : Int32))))) (b := true) (by decide +kernel) rfl rfl ?_
        refine zGo_keep [0] rfl ?_
        exact ih (cs M9 10 0 2 ((cg M9 10 0 2) + (1 : Int32))) h
def m10_nextToken  (M : cM) : Option cM := m10_nextToken_8 zfu (cs M 10 0 2 (cg M 10 0 3))
theorem m10_nextToken_ok {X : zX} {G : zG} (Hy : zHy X G q10_nextToken zcC 1 21 (none)) {M' : cM} (hE : zEnd X G (none) (zfC M'))  (M : cM) (h : m10_nextToken M = some M') : zGo (X, q10_nextToken, G) 0 0 (0, [(0, .inr (.inr (some (10, 0))))], [], zfC M) := by
  unfold m10_nextToken at h
  refine zblq Hy.1 Hy.2.1 [(.aload 0, 1), (.aload 0, 1), (.multianewarray 10 3, 3), (.invokeinterface 10 2, 3)] (S' := (8, [(0, .inr (.inr (some (10, 0))))], [], zfC (cs M 10 0 2 (cg M 10 0 3)))) (b := true) (by decide +kernel) rfl rfl ?_
  refine zGo_keep [0] rfl ?_
  exact m10_nextToken_8_ok Hy hE zfu (cs M 10 0 2 (cg M 10 0 3)) h
theorem m10_nextToken_met {l : Launch} {G : zG} (hG : zGok G) (hcn : zgcn G = zcC)  {M : cM} {M' : cM} (h : m10_nextToken M = some M') : zMet l G yX10_nextToken cX10_nextToken 2 (none) 1 21 [.inr (.inr (some (10, 0)))] (zfC M) (none) (zfC M') :=
  zMet_of hG tbX10_ok rfl (by decide +kernel) (Nat.le_of_ble_eq_true rfl) (fun X _ Z hA hE => m10_nextToken_ok ⟨Z, hcn, hA⟩ hE M h)
abbrev q10_skipWord : ByteArray × Nat × String × zT := (cX10_skipWord, 3, RX10, tbX10)
def m10_skipWord_20 : Nat → Nat → Int32 → cM → Option (Int32 × cM)
  | 0, _, _, _ => none
  | n + 1, i1, x2, M => zgd (Nat.blt i1 11) ((if (zstlen i1) ≤ x2 then zbv (m10_nextToken M) (fun M3 => some ((1 : Int32), M3)) else zbd (m10_byteAt ((cg M 10 0 2) + x2) M) (fun r4 M4 => zgd (Nat.blt i1 11 && zin x2 (zstL.getD i1 0)) ((if r4 = (zstch i1 x2) then (m10_skipWord_20 n) i1 (x2 + (1 : Int32)) M4 else some ((0 : Int32), M4))))))
theorem m10_skipWord_20_ok {X : zX} {G : zG} (Hy : zHy X G q10_skipWord zcC 4 85 (some .boolean)) {r : Int32} {M' : cM} (hE : zEnd X G (some (.inl r)) (zfC M')) : ∀ (n : Nat) (i1 : Nat) (x2 : Int32) (M : cM), m10_skipWord_20 n i1 x2 M = some (r, M') → zGo (X, q10_skipWord, G) 0 0 (20, [(0, .inr (.inr (some (10, 0)))), (1, .inr (.inr (some (2100, i1)))), (2, .inl x2)], [], zfC M) := by
  intro n
  induction n with
  | zero => intro i1 x2 M h; cases h
  | succ n ih =>
    intro i1 x2 M h
    unfold m10_skipWord_20 at h
    refine zblq Hy.1 Hy.2.1 [(.iload 2, 1), (.aload 1, 1)] (S' := (22, [(0, .inr (.inr (some (10, 0)))), (1, .inr (.inr (some (2100, i1)))), (2, .inl x2)], [.inr (.inr (some (2100, i1))), .inl x2], zfC M)) (b := true) (by decide +kernel) rfl rfl ?_
    obtain ⟨hg2, h⟩ := zgd_inv h
    refine zcallT (as := []) (st := [.inl x2]) Hy.1 (zblt_t.mp hg2) (js_len_met (zOK_G Hy.1) (zblt_t.mp hg2)) cw10_97 js_len_in js_len_se rfl (zroom Hy.2.2 ⟨by decide, by decide⟩) rfl (by decide +kernel) ⟨Nat.zero_le _, Nat.zero_le _⟩ ?_
    refine zic_ge Hy.1 (off := 29) (tgt := 54) (by decide +kernel) (by decide) (fun hb7 => ?_) (fun hb7 => ?_)
    · replace h := zite_t h hb7
      refine zblq Hy.1 Hy.2.1 [(.aload 0, 1)] (S' := (55, [(0, .inr (.inr (some (10, 0)))), (1, .inr (.inr (some (2100, i1)))), (2, .inl x2)], [.inr (.inr (some (10, 0)))], zfC M)) (b := true) (by decide +kernel) rfl rfl ?_
      obtain ⟨M3, hc3, h⟩ := zbv_inv h
      refine zcallV Hy.1 (as := []) (st := []) (m10_nextToken_met (zOK_G Hy.1) Hy.2.1 hc3) cw10_32 m10_nextToken_in m10_nextToken_se (by decide) (zhlv Hy.2.1 rfl) rfl (zroom Hy.2.2 ⟨by decide, by decide⟩) rfl (by decide +kernel) ⟨Nat.zero_le _, Nat.zero_le _⟩ ?_
      refine zblq Hy.1 Hy.2.1 [(.iconst 1, 1)] (S' := (59, [(0, .inr (.inr (some (10, 0)))), (1, .inr (.inr (some (2100, i1)))), (2, .inl x2)], [.inl (1 : Int32)], zfC M3)) (b := true) (by decide +kernel) rfl rfl ?_
      cases h
      exact zret_z Hy.1 Hy.2.2 (by decide) hE (by decide +kernel)
    · replace h := zite_f h hb7
      refine zblq Hy.1 Hy.2.1 [(.aload 0, 1), (.aload 0, 1), (.multianewarray 10 2, 3), (.iload 2, 1), (.iadd, 1)] (S' := (35, [(0, .inr (.inr (some (10, 0)))), (1, .inr (.inr (some (2100, i1)))), (2, .inl x2)], [.inl ((cg M 10 0 2) + x2), .inr (.inr (some (10, 0)))], zfC M)) (b := true) (by decide +kernel) rfl rfl ?_
      obtain ⟨r4, M4, hc4, h⟩ := zbd_inv h
      refine zcallV Hy.1 (as := [.inl ((cg M 10 0 2) + x2)]) (st := []) (m10_byteAt_met (zOK_G Hy.1) Hy.2.1 hc4) cw10_90 m10_byteAt_in m10_byteAt_se (by decide) (zhlv Hy.2.1 rfl) rfl (zroom Hy.2.2 ⟨by decide, by decide⟩) rfl (by decide +kernel) ⟨Nat.zero_le _, Nat.zero_le _⟩ ?_
      refine zblq Hy.1 Hy.2.1 [(.aload 1, 1), (.iload 2, 1)] (S' := (40, [(0, .inr (.inr (some (10, 0)))), (1, .inr (.inr (some (2100, i1)))), (2, .inl x2)], [.inl x2, .inr (.inr (some (2100, i1))), .inl r4], zfC M4)) (b := true) (by decide +kernel) rfl rfl ?_
      obtain ⟨hg5, h⟩ := zgd_inv h
      rw [Bool.and_eq_true] at hg5
      refine zcallT (as := [.inl x2]) (st := [.inl r4]) Hy.1 (zblt_t.mp hg5.1) (js_at_met (zOK_G Hy.1) (zblt_t.mp hg5.1) hg5.2) cw10_102 js_at_in js_at_se rfl (zroom Hy.2.2 ⟨by decide, by decide⟩) rfl (by decide +kernel) ⟨Nat.zero_le _, Nat.zero_le _⟩ ?_
      refine zic_eq Hy.1 (off := 5) (tgt := 48) (by decide +kernel) (by decide) (fun hb6 => ?_) (fun hb6 => ?_)
      · replace h := zite_t h hb6
        refine zblq Hy.1 Hy.2.1 [(.iinc 2 1, 3), (.ldc 20, 3)] (S' := (20, [(0, .inr (.inr (some (10, 0)))), (1, .inr (.inr (some (2100, i1)))), (2, .inl (x2 + (1 : Int32)))], [], zfC M4)) (b := true) (by decide +kernel) rfl rfl ?_
        refine zGo_keep [0, 1, 2] rfl ?_
        exact ih i1 (x2 + (1 : Int32)) M4 h
      · replace h := zite_f h hb6
        refine zblq Hy.1 Hy.2.1 [(.iconst 0, 1)] (S' := (47, [(0, .inr (.inr (some (10, 0)))), (1, .inr (.inr (some (2100, i1)))), (2, .inl x2)], [.inl (0 : Int32)], zfC M4)) (b := true) (by decide +kernel) rfl rfl ?_
        cases h
        exact zret_z Hy.1 Hy.2.2 (by decide) hE (by decide +kernel)
def m10_skipWord (i1 : Nat) (M : cM) : Option (Int32 × cM) := zgd (Nat.blt i1 11) ((if ((cg M 10 0 3) - (cg M 10 0 2)) = (zstlen i1) then m10_skipWord_20 zfu i1 (0 : Int32) M else some ((0 : Int32), M)))
theorem m10_skipWord_ok {X : zX} {G : zG} (Hy : zHy X G q10_skipWord zcC 4 85 (some .boolean)) {r : Int32} {M' : cM} (hE : zEnd X G (some (.inl r)) (zfC M')) (i1 : Nat) (M : cM) (h : m10_skipWord i1 M = some (r, M')) : zGo (X, q10_skipWord, G) 0 0 (0, [(0, .inr (.inr (some (10, 0)))), (1, .inr (.inr (some (2100, i1))))], [], zfC M) := by
  unfold m10_skipWord at h
  refine zblq Hy.1 Hy.2.1 [(.aload 0, 1), (.multianewarray 10 3, 3), (.aload 0, 1), (.multianewarray 10 2, 3), (.isub, 1), (.aload 1, 1)] (S' := (10, [(0, .inr (.inr (some (10, 0)))), (1, .inr (.inr (some (2100, i1))))], [.inr (.inr (some (2100, i1))), .inl ((cg M 10 0 3) - (cg M 10 0 2))], zfC M)) (b := true) (by decide +kernel) rfl rfl ?_
  obtain ⟨hg1, h⟩ := zgd_inv h
  refine zcallT (as := []) (st := [.inl ((cg M 10 0 3) - (cg M 10 0 2))]) Hy.1 (zblt_t.mp hg1) (js_len_met (zOK_G Hy.1) (zblt_t.mp hg1)) cw10_97 js_len_in js_len_se rfl (zroom Hy.2.2 ⟨by decide, by decide⟩) rfl (by decide +kernel) ⟨Nat.zero_le _, Nat.zero_le _⟩ ?_
  refine zic_eq Hy.1 (off := 5) (tgt := 18) (by decide +kernel) (by decide) (fun hb8 => ?_) (fun hb8 => ?_)
  · replace h := zite_t h hb8
    refine zblq Hy.1 Hy.2.1 [(.iconst 0, 1), (.istore 2, 1)] (S' := (20, [(0, .inr (.inr (some (10, 0)))), (1, .inr (.inr (some (2100, i1)))), (2, .inl (0 : Int32))], [], zfC M)) (b := true) (by decide +kernel) rfl rfl ?_
    refine zGo_keep [0, 1, 2] rfl ?_
    exact m10_skipWord_20_ok Hy hE zfu i1 (0 : Int32) M h
  · replace h := zite_f h hb8
    refine zblq Hy.1 Hy.2.1 [(.iconst 0, 1)] (S' := (17, [(0, .inr (.inr (some (10, 0)))), (1, .inr (.inr (some (2100, i1))))], [.inl (0 : Int32)], zfC M)) (b := true) (by decide +kernel) rfl rfl ?_
    cases h
    exact zret_z Hy.1 Hy.2.2 (by decide) hE (by decide +kernel)
theorem m10_skipWord_met {l : Launch} {G : zG} (hG : zGok G) (hcn : zgcn G = zcC) {i1 : Nat} {M : cM} {r : Int32} {M' : cM} (h : m10_skipWord i1 M = some (r, M')) : zMet l G yX10_skipWord cX10_skipWord 3 (some .boolean) 4 85 [.inr (.inr (some (10, 0))), .inr (.inr (some (2100, i1)))] (zfC M) (some (.inl r)) (zfC M') :=
  zMet_of hG tbX10_ok rfl (by decide +kernel) (Nat.le_of_ble_eq_true rfl) (fun X _ Z hA hE => m10_skipWord_ok ⟨Z, hcn, hA⟩ hE i1 M h)
abbrev q10_readAim : ByteArray × Nat × String × zT := (cX10_readAim, 1, RX10, tbX10)
def m10_readAim_81  (M : cM) : Option (Int32 × cM) := zbd (m10_skipWord 4 M) (fun r5 M5 => zgd (zbl r5) (some (r5, M5)))
theorem m10_readAim_81_ok {X : zX} {G : zG} (Hy : zHy X G q10_readAim zcC 5 107 (some .boolean)) {r : Int32} {M' : cM} (hE : zEnd X G (some (.inl r)) (zfC M'))  (M : cM) (h : m10_readAim_81 M = some (r, M')) : zGo (X, q10_readAim, G) 0 0 (81, [(0, .inr (.inr (some (10, 0))))], [], zfC M) := by
  unfold m10_readAim_81 at h
  refine zblq Hy.1 Hy.2.1 [(.aload 0, 1)] (S' := (82, [(0, .inr (.inr (some (10, 0))))], [.inr (.inr (some (10, 0)))], zfC M)) (b := true) (by decide +kernel) rfl rfl ?_
  refine zr_ldcS (w := 4) Hy.1 (by decide) rfl (by decide +kernel) ?_
  obtain ⟨r5, M5, hc5, h⟩ := zbd_inv h
  refine zcallV Hy.1 (as := [.inr (.inr (some (2100, 4)))]) (st := []) (m10_skipWord_met (zOK_G Hy.1) Hy.2.1 hc5) cw10_50 m10_skipWord_in m10_skipWord_se (by decide) (zhlv Hy.2.1 rfl) rfl (zroom Hy.2.2 ⟨by decide, by decide⟩) rfl (by decide +kernel) ⟨Nat.zero_le _, Nat.zero_le _⟩ ?_
  obtain ⟨hg6, h⟩ := zgd_inv h
  cases h
  exact zret_z Hy.1 Hy.2.2 hg6 hE (by decide +kernel)
def m10_readAim  (M : cM) : Option (Int32 × cM) := zbd (m10_skipWord 0 M) (fun r1 M1 => (if r1 = 0 then zbd (m10_skipWord 1 M1) (fun r2 M2 => (if r2 = 0 then zbd (m10_skipWord 2 M2) (fun r3 M3 => (if r3 = 0 then zbd (m10_skipWord 3 M3) (fun r4 M4 => (if r4 = 0 then some ((0 : Int32), M4) else m10_readAim_81 (cs M4 7 0 0 (2 : Int32)))) else m10_readAim_81 (cs M3 7 0 0 (1 : Int32)))) else m10_readAim_81 (cs M2 7 0 0 (0 : Int32)))) else some ((1 : Int32), cs M1 7 0 0 (3 : Int32))))
theorem m10_readAim_ok {X : zX} {G : zG} (Hy : zHy X G q10_readAim zcC 5 107 (some .boolean)) {r : Int32} {M' : cM} (hE : zEnd X G (some (.inl r)) (zfC M'))  (M : cM) (h : m10_readAim M = some (r, M')) : zGo (X, q10_readAim, G) 0 0 (0, [(0, .inr (.inr (some (10, 0))))], [], zfC M) := by
  unfold m10_readAim at h
  refine zblq Hy.1 Hy.2.1 [(.aload 0, 1)] (S' := (1, [(0, .inr (.inr (some (10, 0))))], [.inr (.inr (some (10, 0)))], zfC M)) (b := true) (by decide +kernel) rfl rfl ?_
  refine zr_ldcS (w := 0) Hy.1 (by decide) rfl (by decide +kernel) ?_
  obtain ⟨r1, M1, hc1, h⟩ := zbd_inv h
  refine zcallV Hy.1 (as := [.inr (.inr (some (2100, 0)))]) (st := []) (m10_skipWord_met (zOK_G Hy.1) Hy.2.1 hc1) cw10_50 m10_skipWord_in m10_skipWord_se (by decide) (zhlv Hy.2.1 rfl) rfl (zroom Hy.2.2 ⟨by decide, by decide⟩) rfl (by decide +kernel) ⟨Nat.zero_le _, Nat.zero_le _⟩ ?_
  refine zif_eq Hy.1 (off := 13) (tgt := 19) (by decide +kernel) (by decide) (fun hb10 => ?_) (fun hb10 => ?_)
  · replace h := zite_t h hb10
    refine zblq Hy.1 Hy.2.1 [(.aload 0, 1)] (S' := (20, [(0, .inr (.inr (some (10, 0))))], [.inr (.inr (some (10, 0)))], zfC M1)) (b := true) (by decide +kernel) rfl rfl ?_
    refine zr_ldcS (w := 1) Hy.1 (by decide) rfl (by decide +kernel) ?_
    obtain ⟨r2, M2, hc2, h⟩ := zbd_inv h
    refine zcallV Hy.1 (as := [.inr (.inr (some (2100, 1)))]) (st := []) (m10_skipWord_met (zOK_G Hy.1) Hy.2.1 hc2) cw10_50 m10_skipWord_in m10_skipWord_se (by decide) (zhlv Hy.2.1 rfl) rfl (zroom Hy.2.2 ⟨by decide, by decide⟩) rfl (by decide +kernel) ⟨Nat.zero_le _, Nat.zero_le _⟩ ?_
    refine zif_eq Hy.1 (off := 14) (tgt := 39) (by decide +kernel) (by decide) (fun hb9 => ?_) (fun hb9 => ?_)
    · replace h := zite_t h hb9
      refine zblq Hy.1 Hy.2.1 [(.aload 0, 1)] (S' := (40, [(0, .inr (.inr (some (10, 0))))], [.inr (.inr (some (10, 0)))], zfC M2)) (b := true) (by decide +kernel) rfl rfl ?_
      refine zr_ldcS (w := 2) Hy.1 (by decide) rfl (by decide +kernel) ?_
      obtain ⟨r3, M3, hc3, h⟩ := zbd_inv h
      refine zcallV Hy.1 (as := [.inr (.inr (some (2100, 2)))]) (st := []) (m10_skipWord_met (zOK_G Hy.1) Hy.2.1 hc3) cw10_50 m10_skipWord_in m10_skipWord_se (by decide) (zhlv Hy.2.1 rfl) rfl (zroom Hy.2.2 ⟨by decide, by decide⟩) rfl (by decide +kernel) ⟨Nat.zero_le _, Nat.zero_le _⟩ ?_
      refine zif_eq Hy.1 (off := 14) (tgt := 59) (by decide +kernel) (by decide) (fun hb8 => ?_) (fun hb8 => ?_)
      · replace h := zite_t h hb8
        refine zblq Hy.1 Hy.2.1 [(.aload 0, 1)] (S' := (60, [(0, .inr (.inr (some (10, 0))))], [.inr (.inr (some (10, 0)))], zfC M3)) (b := true) (by decide +kernel) rfl rfl ?_
        refine zr_ldcS (w := 3) Hy.1 (by decide) rfl (by decide +kernel) ?_
        obtain ⟨r4, M4, hc4, h⟩ := zbd_inv h
        refine zcallV Hy.1 (as := [.inr (.inr (some (2100, 3)))]) (st := []) (m10_skipWord_met (zOK_G Hy.1) Hy.2.1 hc4) cw10_50 m10_skipWord_in m10_skipWord_se (by decide) (zhlv Hy.2.1 rfl) rfl (zroom Hy.2.2 ⟨by decide, by decide⟩) rfl (by decide +kernel) ⟨Nat.zero_le _, Nat.zero_le _⟩ ?_
        refine zif_eq Hy.1 (off := 14) (tgt := 79) (by decide +kernel) (by decide) (fun hb7 => ?_) (fun hb7 => ?_)
        · replace h := zite_t h hb7
          refine zblq Hy.1 Hy.2.1 [(.iconst 0, 1)] (S' := (80, [(0, .inr (.inr (some (10, 0))))], [.inl (0 : Int32)], zfC M4)) (b := true) (by decide +kernel) rfl rfl ?_
          cases h
          exact zret_z Hy.1 Hy.2.2 (by decide) hE (by decide +kernel)
        · replace h := zite_f h hb7
          refine zblq Hy.1 Hy.2.1 [(.aload 0, 1), (.getfield 1004, 3), (.iconst 2, 1), (.invokeinterface 7 0, 3), (.ldc 81, 3)] (S' := (81, [(0, .inr (.inr (some (10, 0))))], [], zfC (cs M4 7 0 0 (2 : Int32)))) (b := true) (by decide +kernel) rfl rfl ?_
          refine zGo_keep [0] rfl ?_
          exact m10_readAim_81_ok Hy hE (cs M4 7 0 0 (2 : Int32)) h
      · replace h := zite_f h hb8
        refine zblq Hy.1 Hy.2.1 [(.aload 0, 1), (.getfield 1004, 3), (.iconst 1, 1), (.invokeinterface 7 0, 3), (.ldc 81, 3)] (S' := (81, [(0, .inr (.inr (some (10, 0))))], [], zfC (cs M3 7 0 0 (1 : Int32)))) (b := true) (by decide +kernel) rfl rfl ?_
        refine zGo_keep [0] rfl ?_
        exact m10_readAim_81_ok Hy hE (cs M3 7 0 0 (1 : Int32)) h
    · replace h := zite_f h hb9
      refine zblq Hy.1 Hy.2.1 [(.aload 0, 1), (.getfield 1004, 3), (.iconst 0, 1), (.invokeinterface 7 0, 3), (.ldc 81, 3)] (S' := (81, [(0, .inr (.inr (some (10, 0))))], [], zfC (cs M2 7 0 0 (0 : Int32)))) (b := true) (by decide +kernel) rfl rfl ?_
      refine zGo_keep [0] rfl ?_
      exact m10_readAim_81_ok Hy hE (cs M2 7 0 0 (0 : Int32)) h
  · replace h := zite_f h hb10
    refine zblq Hy.1 Hy.2.1 [(.aload 0, 1), (.getfield 1004, 3), (.iconst 3, 1), (.invokeinterface 7 0, 3), (.iconst 1, 1)] (S' := (18, [(0, .inr (.inr (some (10, 0))))], [.inl (1 : Int32)], zfC (cs M1 7 0 0 (3 : Int32)))) (b := true) (by decide +kernel) rfl rfl ?_
    cases h
    exact zret_z Hy.1 Hy.2.2 (by decide) hE (by decide +kernel)
theorem m10_readAim_met {l : Launch} {G : zG} (hG : zGok G) (hcn : zgcn G = zcC)  {M : cM} {r : Int32} {M' : cM} (h : m10_readAim M = some (r, M')) : zMet l G yX10_readAim cX10_readAim 1 (some .boolean) 5 107 [.inr (.inr (some (10, 0)))] (zfC M) (some (.inl r)) (zfC M') :=
  zMet_of hG tbX10_ok rfl (by decide +kernel) (Nat.le_of_ble_eq_true rfl) (fun X _ Z hA hE => m10_readAim_ok ⟨Z, hcn, hA⟩ hE M h)
abbrev q10_numberAtHand : ByteArray × Nat × String × zT := (cX10_numberAtHand, 3, RX10, tbX10)
def m10_numberAtHand_35 : Nat → Int32 → Int32 → cM → Option (Int32 × cM)
  | 0, _, _, _ => none
  | n + 1, x1, x2, M => (if (cg M 10 0 3) ≤ x2 then some (x1, M) else zbd (m10_byteAt x2 M) (fun r1 M1 => zbd (m10_kindOf r1 M1) (fun r2 M2 => (if r2 = (2 : Int32) then zbd (m10_byteAt x2 M2) (fun r3 M3 => (m10_numberAtHand_35 n) ((((10 : Int32) * x1) + r3) - (48 : Int32)) (x2 + (1 : Int32)) M3) else some ((-1 : Int32), M2)))))
theorem m10_numberAtHand_35_ok {X : zX} {G : zG} (Hy : zHy X G q10_numberAtHand zcC 1 21 (some .int)) {r : Int32} {M' : cM} (hE : zEnd X G (some (.inl r)) (zfC M')) : ∀ (n : Nat) (x1 : Int32) (x2 : Int32) (M : cM), m10_numberAtHand_35 n x1 x2 M = some (r, M') → zGo (X, q10_numberAtHand, G) 0 0 (35, [(0, .inr (.inr (some (10, 0)))), (1, .inl x1), (2, .inl x2)], [], zfC M) := by
  intro n
  induction n with
  | zero => intro x1 x2 M h; cases h
  | succ n ih =>
    intro x1 x2 M h
    unfold m10_numberAtHand_35 at h
    refine zblq Hy.1 Hy.2.1 [(.iload 2, 1), (.aload 0, 1), (.multianewarray 10 3, 3)] (S' := (40, [(0, .inr (.inr (some (10, 0)))), (1, .inl x1), (2, .inl x2)], [.inl (cg M 10 0 3), .inl x2], zfC M)) (b := true) (by decide +kernel) rfl rfl ?_
    refine zic_ge Hy.1 (off := 37) (tgt := 77) (by decide +kernel) (by decide) (fun hb5 => ?_) (fun hb5 => ?_)
    · replace h := zite_t h hb5
      refine zblq Hy.1 Hy.2.1 [(.iload 1, 1)] (S' := (78, [(0, .inr (.inr (some (10, 0)))), (1, .inl x1), (2, .inl x2)], [.inl x1], zfC M)) (b := true) (by decide +kernel) rfl rfl ?_
      cases h
      exact zret_i Hy.1 Hy.2.2 hE (by decide +kernel)
    · replace h := zite_f h hb5
      refine zblq Hy.1 Hy.2.1 [(.aload 0, 1), (.iload 2, 1)] (S' := (45, [(0, .inr (.inr (some (10, 0)))), (1, .inl x1), (2, .inl x2)], [.inl x2, .inr (.inr (some (10, 0)))], zfC M)) (b := true) (by decide +kernel) rfl rfl ?_
      obtain ⟨r1, M1, hc1, h⟩ := zbd_inv h
      refine zcallV Hy.1 (as := [.inl x2]) (st := []) (m10_byteAt_met (zOK_G Hy.1) Hy.2.1 hc1) cw10_90 m10_byteAt_in m10_byteAt_se (by decide) (zhlv Hy.2.1 rfl) rfl (zroom Hy.2.2 ⟨by decide, by decide⟩) rfl (by decide +kernel) ⟨Nat.zero_le _, Nat.zero_le _⟩ ?_
      obtain ⟨r2, M2, hc2, h⟩ := zbd_inv h
      refine zcallS Hy.1 (as := [.inl r1]) (st := []) (m10_kindOf_met (zOK_G Hy.1) Hy.2.1 hc2) cw10_94 m10_kindOf_in rfl (zroom Hy.2.2 ⟨by decide, by decide⟩) rfl (by decide +kernel) ⟨Nat.zero_le _, Nat.zero_le _⟩ ?_
      refine zblq Hy.1 Hy.2.1 [(.iconst 2, 1)] (S' := (52, [(0, .inr (.inr (some (10, 0)))), (1, .inl x1), (2, .inl x2)], [.inl (2 : Int32), .inl r2], zfC M2)) (b := true) (by decide +kernel) rfl rfl ?_
      refine zic_eq Hy.1 (off := 5) (tgt := 57) (by decide +kernel) (by decide) (fun hb4 => ?_) (fun hb4 => ?_)
      · replace h := zite_t h hb4
        refine zblq Hy.1 Hy.2.1 [(.iconst 10, 2), (.iload 1, 1), (.imul, 1), (.aload 0, 1), (.iload 2, 1)] (S' := (63, [(0, .inr (.inr (some (10, 0)))), (1, .inl x1), (2, .inl x2)], [.inl x2, .inr (.inr (some (10, 0))), .inl ((10 : Int32) * x1)], zfC M2)) (b := true) (by decide +kernel) rfl rfl ?_
        obtain ⟨r3, M3, hc3, h⟩ := zbd_inv h
        refine zcallV Hy.1 (as := [.inl x2]) (st := [.inl ((10 : Int32) * x1)]) (m10_byteAt_met (zOK_G Hy.1) Hy.2.1 hc3) cw10_90 m10_byteAt_in m10_byteAt_se (by decide) (zhlv Hy.2.1 rfl) rfl (zroom Hy.2.2 ⟨by decide, by decide⟩) rfl (by decide +kernel) ⟨Nat.zero_le _, Nat.zero_le _⟩ ?_
        refine zblq Hy.1 Hy.2.1 [(.iadd, 1), (.iconst 48, 2), (.isub, 1), (.istore 1, 1), (.iinc 2 1, 3), (.ldc 35, 3)] (S' := (35, [(0, .inr (.inr (some (10, 0)))), (1, .inl ((((10 : Int32) * x1) + r3) - (48 : Int32))), (2, .inl (x2 + (1 : Int32)))], [], zfC M3)) (b := true) (by decide +kernel) rfl rfl ?_
        refine zGo_keep [0, 1, 2] rfl ?_
        exact ih ((((10 : Int32) * x1) + r3) - (48 : Int32)) (x2 + (1 : Int32)) M3 h
      · replace h := zite_f h hb4
        refine zblq Hy.1 Hy.2.1 [(.iconst (-1), 1)] (S' := (56, [(0, .inr (.inr (some (10, 0)))), (1, .inl x1), (2, .inl x2)], [.inl (-1 : Int32)], zfC M2)) (b := true) (by decide +kernel) rfl rfl ?_
        cases h
        exact zret_i Hy.1 Hy.2.2 hE (by decide +kernel)
def m10_numberAtHand  (M : cM) : Option (Int32 × cM) := (if ((cg M 10 0 3) - (cg M 10 0 2)) < (1 : Int32) then some ((-1 : Int32), M) else (if ((cg M 10 0 3) - (cg M 10 0 2)) ≤ (2 : Int32) then m10_numberAtHand_35 zfu (0 : Int32) (cg M 10 0 2) M else some ((-1 : Int32), M)))
theorem m10_numberAtHand_ok {X : zX} {G : zG} (Hy : zHy X G q10_numberAtHand zcC 1 21 (some .int)) {r : Int32} {M' : cM} (hE : zEnd X G (some (.inl r)) (zfC M'))  (M : cM) (h : m10_numberAtHand M = some (r, M')) : zGo (X, q10_numberAtHand, G) 0 0 (0, [(0, .inr (.inr (some (10, 0))))], [], zfC M) := by
  unfold m10_numberAtHand at h
  refine zblq Hy.1 Hy.2.1 [(.aload 0, 1), (.multianewarray 10 3, 3), (.aload 0, 1), (.multianewarray 10 2, 3), (.isub, 1), (.iconst 1, 1)] (S' := (10, [(0, .inr (.inr (some (10, 0))))], [.inl (1 : Int32), .inl ((cg M 10 0 3) - (cg M 10 0 2))], zfC M)) (b := true) (by decide +kernel) rfl rfl ?_
  refine zic_lt Hy.1 (off := 16) (tgt := 26) (by decide +kernel) (by decide) (fun hb7 => ?_) (fun hb7 => ?_)
  · replace h := zite_t h hb7
    refine zblq Hy.1 Hy.2.1 [(.iconst (-1), 1)] (S' := (27, [(0, .inr (.inr (some (10, 0))))], [.inl (-1 : Int32)], zfC M)) (b := true) (by decide +kernel) rfl rfl ?_
    cases h
    exact zret_i Hy.1 Hy.2.2 hE (by decide +kernel)
  · replace h := zite_f h hb7
    refine zblq Hy.1 Hy.2.1 [(.aload 0, 1), (.multianewarray 10 3, 3), (.aload 0, 1), (.multianewarray 10 2, 3), (.isub, 1), (.iconst 2, 1)] (S' := (23, [(0, .inr (.inr (some (10, 0))))], [.inl (2 : Int32), .inl ((cg M 10 0 3) - (cg M 10 0 2))], zfC M)) (b := true) (by decide +kernel) rfl rfl ?_
    refine zic_le Hy.1 (off := 5) (tgt := 28) (by decide +kernel) (by decide) (fun hb6 => ?_) (fun hb6 => ?_)
    · replace h := zite_t h hb6
      refine zblq Hy.1 Hy.2.1 [(.iconst 0, 1), (.istore 1, 1), (.aload 0, 1), (.multianewarray 10 2, 3), (.istore 2, 1)] (S' := (35, [(0, .inr (.inr (some (10, 0)))), (1, .inl (0 : Int32)), (2, .inl (cg M 10 0 2))], [], zfC M)) (b := true) (by decide +kernel) rfl rfl ?_
      refine zGo_keep [0, 1, 2] rfl ?_
      exact m10_numberAtHand_35_ok Hy hE zfu (0 : Int32) (cg M 10 0 2) M h
    · replace h := zite_f h hb6
      refine zblq Hy.1 Hy.2.1 [(.iconst (-1), 1)] (S' := (27, [(0, .inr (.inr (some (10, 0))))], [.inl (-1 : Int32)], zfC M)) (b := true) (by decide +kernel) rfl rfl ?_
      cases h
      exact zret_i Hy.1 Hy.2.2 hE (by decide +kernel)
theorem m10_numberAtHand_met {l : Launch} {G : zG} (hG : zGok G) (hcn : zgcn G = zcC)  {M : cM} {r : Int32} {M' : cM} (h : m10_numberAtHand M = some (r, M')) : zMet l G yX10_numberAtHand cX10_numberAtHand 3 (some .int) 1 21 [.inr (.inr (some (10, 0)))] (zfC M) (some (.inl r)) (zfC M') :=
  zMet_of hG tbX10_ok rfl (by decide +kernel) (Nat.le_of_ble_eq_true rfl) (fun X _ Z hA hE => m10_numberAtHand_ok ⟨Z, hcn, hA⟩ hE M h)
abbrev q7_takesMoreConds : ByteArray × Nat × String × zT := (cX7_takesMoreConds, 1, RX7, tbX7)
def m7_takesMoreConds (i0 : Nat) (M : cM) : Option (Int32 × cM) := zgd (Nat.blt i0 2 && true) ((if (8 : Int32) ≤ (cg M 7 i0 2) then some ((0 : Int32), M) else some ((1 : Int32), M)))
theorem m7_takesMoreConds_ok {X : zX} {G : zG} (Hy : zHy X G q7_takesMoreConds zcC 0 0 (some .boolean)) {r : Int32} {M' : cM} (hE : zEnd X G (some (.inl r)) (zfC M')) (i0 : Nat) (M : cM) (h : m7_takesMoreConds i0 M = some (r, M')) : zGo (X, q7_takesMoreConds, G) 0 0 (0, [(0, .inr (.inr (some (7, i0))))], [], zfC M) := by
  unfold m7_takesMoreConds at h
  obtain ⟨hg1, h⟩ := zgd_inv h
  refine zblq Hy.1 Hy.2.1 [(.aload 0, 1), (.multianewarray 7 2, 3), (.iconst 8, 2)] (S' := (6, [(0, .inr (.inr (some (7, i0))))], [.inl (8 : Int32), .inl (cg M 7 i0 2)], zfC M)) (b := Nat.blt i0 2 && true) (by decide +kernel) rfl hg1 ?_
  refine zic_ge Hy.1 (off := 7) (tgt := 13) (by decide +kernel) (by decide) (fun hb2 => ?_) (fun hb2 => ?_)
  · replace h := zite_t h hb2
    refine zblq Hy.1 Hy.2.1 [(.iconst 0, 1)] (S' := (14, [(0, .inr (.inr (some (7, i0))))], [.inl (0 : Int32)], zfC M)) (b := true) (by decide +kernel) rfl rfl ?_
    cases h
    exact zret_z Hy.1 Hy.2.2 (by decide) hE (by decide +kernel)
  · replace h := zite_f h hb2
    refine zblq Hy.1 Hy.2.1 [(.iconst 1, 1), (.ldc 14, 3)] (S' := (14, [(0, .inr (.inr (some (7, i0))))], [.inl (1 : Int32)], zfC M)) (b := true) (by decide +kernel) rfl rfl ?_
    cases h
    exact zret_z Hy.1 Hy.2.2 (by decide) hE (by decide +kernel)
theorem m7_takesMoreConds_met {l : Launch} {G : zG} (hG : zGok G) (hcn : zgcn G = zcC) {i0 : Nat} {M : cM} {r : Int32} {M' : cM} (h : m7_takesMoreConds i0 M = some (r, M')) : zMet l G yX7_takesMoreConds cX7_takesMoreConds 1 (some .boolean) 0 0 [.inr (.inr (some (7, i0)))] (zfC M) (some (.inl r)) (zfC M') :=
  zMet_of hG tbX7_ok rfl (by decide +kernel) (Nat.le_of_ble_eq_true rfl) (fun X _ Z hA hE => m7_takesMoreConds_ok ⟨Z, hcn, hA⟩ hE i0 M h)
abbrev q7_addCond : ByteArray × Nat × String × zT := (cX7_addCond, 4, RX7, tbX7)
def m7_addCond_38 (i0 : Nat) (M : cM) : Option cM := zgd (Nat.blt i0 2 && ((Nat.blt i0 2 && true) && true)) (some (cs M 7 i0 2 ((cg M 7 i0 2) + (1 : Int32))))
theorem m7_addCond_38_ok {X : zX} {G : zG} (Hy : zHy X G q7_addCond zcC 1 20 (none)) {M' : cM} (hE : zEnd X G (none) (zfC M')) (i0 : Nat) (M : cM) (h : m7_addCond_38 i0 M = some M') : zGo (X, q7_addCond, G) 0 0 (38, [(0, .inr (.inr (some (7, i0))))], [], zfC M) := by
  unfold m7_addCond_38 at h
  obtain ⟨hg4, h⟩ := zgd_inv h
  refine zblq Hy.1 Hy.2.1 [(.aload 0, 1), (.dup, 1), (.multianewarray 7 2, 3), (.iconst 1, 1), (.iadd, 1), (.invokeinterface 7 2, 3)] (S' := (48, [(0, .inr (.inr (some (7, i0))))], [], zfC (cs M 7 i0 2 ((cg M 7 i0 2) + (1 : Int32))))) (b := Nat.blt i0 2 && ((Nat.blt i0 2 && true) && true)) (by decide +kernel) rfl hg4 ?_
  cases h
  exact zret_v Hy.1 Hy.2.2 hE (by decide +kernel)
def m7_addCond (i0 : Nat) (x1 : Int32) (x2 : Int32) (x3 : Int32) (M : cM) : Option cM := zgd (Nat.blt i0 2) (zbd (m7_takesMoreConds i0 M) (fun r1 M1 => (if r1 = 0 then some M1 else zgd (Nat.blt i0 2 && (Nat.blt i0 2 && ((Nat.blt i0 2 && zin (cg M1 7 i0 2) 8) && (Nat.blt i0 2 && (Nat.blt i0 2 && ((Nat.blt i0 2 && zin (cg (cs M1 803 i0 (nx (cg M1 7 i0 2)) (vp_nar .boolean x1)) 7 i0 2) 8) && (Nat.blt i0 2 && (Nat.blt i0 2 && ((Nat.blt i0 2 && zin (cg (cs (cs M1 803 i0 (nx (cg M1 7 i0 2)) (vp_nar .boolean x1)) 804 i0 (nx (cg (cs M1 803 i0 (nx (cg M1 7 i0 2)) (vp_nar .boolean x1)) 7 i0 2)) (vp_nar .boolean x2)) 7 i0 2) 8) && true))))))))) (m7_addCond_38 i0 (cs (cs (cs M1 803 i0 (nx (cg M1 7 i0 2)) (vp_nar .boolean x1)) 804 i0 (nx (cg (cs M1 803 i0 (nx (cg M1 7 i0 2)) (vp_nar .boolean x1)) 7 i0 2)) (vp_nar .boolean x2)) 805 i0 (nx (cg (cs (cs M1 803 i0 (nx (cg M1 7 i0 2)) (vp_nar .boolean x1)) 804 i0 (nx (cg (cs M1 803 i0 (nx (cg M1 7 i0 2)) (vp_nar .boolean x1)) 7 i0 2)) (vp_nar .boolean x2)) 7 i0 2)) x3)))))
theorem m7_addCond_ok {X : zX} {G : zG} (Hy : zHy X G q7_addCond zcC 1 20 (none)) {M' : cM} (hE : zEnd X G (none) (zfC M')) (i0 : Nat) (x1 : Int32) (x2 : Int32) (x3 : Int32) (M : cM) (h : m7_addCond i0 x1 x2 x3 M = some M') : zGo (X, q7_addCond, G) 0 0 (0, [(0, .inr (.inr (some (7, i0)))), (1, .inl x1), (2, .inl x2), (3, .inl x3)], [], zfC M) := by
  unfold m7_addCond at h
  refine zblq Hy.1 Hy.2.1 [(.aload 0, 1)] (S' := (1, [(0, .inr (.inr (some (7, i0)))), (1, .inl x1), (2, .inl x2), (3, .inl x3)], [.inr (.inr (some (7, i0)))], zfC M)) (b := true) (by decide +kernel) rfl rfl ?_
  obtain ⟨hg2, h⟩ := zgd_inv h
  obtain ⟨r1, M1, hc1, h⟩ := zbd_inv h
  refine zcallV Hy.1 (as := []) (st := []) (m7_takesMoreConds_met (zOK_G Hy.1) Hy.2.1 hc1) cw7_32 m7_takesMoreConds_in m7_takesMoreConds_se (by decide) (zhlv Hy.2.1 hg2) rfl (zroom Hy.2.2 ⟨by decide, by decide⟩) rfl (by decide +kernel) ⟨Nat.zero_le _, Nat.zero_le _⟩ ?_
  refine zif_ne Hy.1 (off := 4) (tgt := 8) (by decide +kernel) (by decide) (fun hb5 => ?_) (fun hb5 => ?_)
  · replace h := zite_f h hb5
    obtain ⟨hg3, h⟩ := zgd_inv h
    refine zblq Hy.1 Hy.2.1 [(.aload 0, 1), (.getfield 703, 3), (.aload 0, 1), (.multianewarray 7 2, 3), (.iload 1, 1), (.bastore, 1), (.aload 0, 1), (.getfield 704, 3), (.aload 0, 1), (.multianewarray 7 2, 3), (.iload 2, 1), (.bastore, 1), (.aload 0, 1), (.getfield 705, 3), (.aload 0, 1), (.multianewarray 7 2, 3), (.iload 3, 1), (.iastore, 1)] (S' := (38, [(0, .inr (.inr (some (7, i0)))), (1, .inl x1), (2, .inl x2), (3, .inl x3)], [], zfC (cs (cs (cs M1 803 i0 (nx (cg M1 7 i0 2)) (vp_nar .boolean x1)) 804 i0 (nx (cg (cs M1 803 i0 (nx (cg M1 7 i0 2)) (vp_nar .boolean x1)) 7 i0 2)) (vp_nar .boolean x2)) 805 i0 (nx (cg (cs (cs M1 803 i0 (nx (cg M1 7 i0 2)) (vp_nar .boolean x1)) 804 i0 (nx (cg (cs M1 803 i0 (nx (cg M1 7 i0 2)) (vp_nar .boolean x1)) 7 i0 2)) (vp_nar .boolean x2)) 7 i0 2)) x3))) (b := Nat.blt i0 2 && (Nat.blt i0 2 && ((Nat.blt i0 2 && zin (cg M1 7 i0 2) 8) && (Nat.blt i0 2 && (Nat.blt i0 2 && ((Nat.blt i0 2 && zin (cg (cs M1 803 i0 (nx (cg M1 7 i0 2)) (vp_nar .boolean x1)) 7 i0 2) 8) && (Nat.blt i0 2 && (Nat.blt i0 2 && ((Nat.blt i0 2 && zin (cg (cs (cs M1 803 i0 (nx (cg M1 7 i0 2)) (vp_nar .boolean x1)) 804 i0 (nx (cg (cs M1 803 i0 (nx (cg M1 7 i0 2)) (vp_nar .boolean x1)) 7 i0 2)) (vp_nar .boolean x2)) 7 i0 2) 8) && true))))))))) (by decide +kernel) rfl hg3 ?_
    refine zGo_keep [0] rfl ?_
    exact m7_addCond_38_ok Hy hE i0 (cs (cs (cs M1 803 i0 (nx (cg M1 7 i0 2)) (vp_nar .boolean x1)) 804 i0 (nx (cg (cs M1 803 i0 (nx (cg M1 7 i0 2)) (vp_nar .boolean x1)) 7 i0 2)) (vp_nar .boolean x2)) 805 i0 (nx (cg (cs (cs M1 803 i0 (nx (cg M1 7 i0 2)) (vp_nar .boolean x1)) 804 i0 (nx (cg (cs M1 803 i0 (nx (cg M1 7 i0 2)) (vp_nar .boolean x1)) 7 i0 2)) (vp_nar .boolean x2)) 7 i0 2)) x3) h
  · replace h := zite_t h hb5
    cases h
    exact zret_v Hy.1 Hy.2.2 hE (by decide +kernel)
theorem m7_addCond_met {l : Launch} {G : zG} (hG : zGok G) (hcn : zgcn G = zcC) {i0 : Nat} {x1 : Int32} {x2 : Int32} {x3 : Int32} {M : cM} {M' : cM} (h : m7_addCond i0 x1 x2 x3 M = some M') : zMet l G yX7_addCond cX7_addCond 4 (none) 1 20 [.inr (.inr (some (7, i0))), .inl x1, .inl x2, .inl x3] (zfC M) (none) (zfC M') :=
  zMet_of hG tbX7_ok rfl (by decide +kernel) (Nat.le_of_ble_eq_true rfl) (fun X _ Z hA hE => m7_addCond_ok ⟨Z, hcn, hA⟩ hE i0 x1 x2 x3 M h)
abbrev q10_readCond : ByteArray × Nat × String × zT := (cX10_readCond, 4, RX10, tbX10)
def m10_readCond_44 (x1 : Int32) (x2 : Int32) (M : cM) : Option (Int32 × cM) := zbd (m10_numberAtHand M) (fun r3 M3 => (if r3 = (-1 : Int32) then some ((0 : Int32), M3) else zbv (m7_addCond 0 x1 x2 r3 M3) (fun M4 => zbv (m10_nextToken M4) (fun M5 => some ((1 : Int32), M5)))))
theorem m10_readCond_44_ok {X : zX} {G : zG} (Hy : zHy X G q10_readCond zcC 5 107 (some .boolean)) {r : Int32} {M' : cM} (hE : zEnd X G (some (.inl r)) (zfC M')) (x1 : Int32) (x2 : Int32) (M : cM) (h : m10_readCond_44 x1 x2 M = some (r, M')) : zGo (X, q10_readCond, G) 0 0 (44, [(0, .inr (.inr (some (10, 0)))), (1, .inl x1), (2, .inl x2)], [], zfC M) := by
  unfold m10_readCond_44 at h
  refine zblq Hy.1 Hy.2.1 [(.aload 0, 1)] (S' := (45, [(0, .inr (.inr (some (10, 0)))), (1, .inl x1), (2, .inl x2)], [.inr (.inr (some (10, 0)))], zfC M)) (b := true) (by decide +kernel) rfl rfl ?_
  obtain ⟨r3, M3, hc3, h⟩ := zbd_inv h
  refine zcallV Hy.1 (as := []) (st := []) (m10_numberAtHand_met (zOK_G Hy.1) Hy.2.1 hc3) cw10_78 m10_numberAtHand_in m10_numberAtHand_se (by decide) (zhlv Hy.2.1 rfl) rfl (zroom Hy.2.2 ⟨by decide, by decide⟩) rfl (by decide +kernel) ⟨Nat.zero_le _, Nat.zero_le _⟩ ?_
  refine zblq Hy.1 Hy.2.1 [(.istore 3, 1), (.iload 3, 1), (.iconst (-1), 1)] (S' := (51, [(0, .inr (.inr (some (10, 0)))), (1, .inl x1), (2, .inl x2), (3, .inl r3)], [.inl (-1 : Int32), .inl r3], zfC M3)) (b := true) (by decide +kernel) rfl rfl ?_
  refine zic_ne Hy.1 (off := 5) (tgt := 56) (by decide +kernel) (by decide) (fun hb6 => ?_) (fun hb6 => ?_)
  · replace h := zite_f h hb6
    refine zblq Hy.1 Hy.2.1 [(.aload 0, 1), (.getfield 1004, 3), (.iload 1, 1), (.iload 2, 1), (.iload 3, 1)] (S' := (63, [(0, .inr (.inr (some (10, 0)))), (1, .inl x1), (2, .inl x2), (3, .inl r3)], [.inl r3, .inl x2, .inl x1, .inr (.inr (some (7, 0)))], zfC M3)) (b := true) (by decide +kernel) rfl rfl ?_
    obtain ⟨M4, hc4, h⟩ := zbv_inv h
    refine zcallV Hy.1 (as := [.inl x1, .inl x2, .inl r3]) (st := []) (m7_addCond_met (zOK_G Hy.1) Hy.2.1 hc4) cw10_82 m7_addCond_in m7_addCond_se (by decide) (zhlv Hy.2.1 rfl) rfl (zroom Hy.2.2 ⟨by decide, by decide⟩) rfl (by decide +kernel) ⟨Nat.zero_le _, Nat.zero_le _⟩ ?_
    refine zblq Hy.1 Hy.2.1 [(.aload 0, 1)] (S' := (67, [(0, .inr (.inr (some (10, 0)))), (1, .inl x1), (2, .inl x2), (3, .inl r3)], [.inr (.inr (some (10, 0)))], zfC M4)) (b := true) (by decide +kernel) rfl rfl ?_
    obtain ⟨M5, hc5, h⟩ := zbv_inv h
    refine zcallV Hy.1 (as := []) (st := []) (m10_nextToken_met (zOK_G Hy.1) Hy.2.1 hc5) cw10_32 m10_nextToken_in m10_nextToken_se (by decide) (zhlv Hy.2.1 rfl) rfl (zroom Hy.2.2 ⟨by decide, by decide⟩) rfl (by decide +kernel) ⟨Nat.zero_le _, Nat.zero_le _⟩ ?_
    refine zblq Hy.1 Hy.2.1 [(.iconst 1, 1)] (S' := (71, [(0, .inr (.inr (some (10, 0)))), (1, .inl x1), (2, .inl x2), (3, .inl r3)], [.inl (1 : Int32)], zfC M5)) (b := true) (by decide +kernel) rfl rfl ?_
    cases h
    exact zret_z Hy.1 Hy.2.2 (by decide) hE (by decide +kernel)
  · replace h := zite_t h hb6
    refine zblq Hy.1 Hy.2.1 [(.iconst 0, 1)] (S' := (55, [(0, .inr (.inr (some (10, 0)))), (1, .inl x1), (2, .inl x2), (3, .inl r3)], [.inl (0 : Int32)], zfC M3)) (b := true) (by decide +kernel) rfl rfl ?_
    cases h
    exact zret_z Hy.1 Hy.2.2 (by decide) hE (by decide +kernel)
def m10_readCond_22 (x1 : Int32) (M : cM) : Option (Int32 × cM) := zbd (m10_skipWord 7 M) (fun r2 M2 => (if r2 = 0 then zbd (m10_skipWord 8 M2) (fun r7 M7 => (if r7 = 0 then some ((0 : Int32), M7) else m10_readCond_44 x1 r2 M7)) else m10_readCond_44 x1 r2 M2))
theorem m10_readCond_22_ok {X : zX} {G : zG} (Hy : zHy X G q10_readCond zcC 5 107 (some .boolean)) {r : Int32} {M' : cM} (hE : zEnd X G (some (.inl r)) (zfC M')) (x1 : Int32) (M : cM) (h : m10_readCond_22 x1 M = some (r, M')) : zGo (X, q10_readCond, G) 0 0 (22, [(0, .inr (.inr (some (10, 0)))), (1, .inl x1)], [], zfC M) := by
  unfold m10_readCond_22 at h
  refine zblq Hy.1 Hy.2.1 [(.aload 0, 1)] (S' := (23, [(0, .inr (.inr (some (10, 0)))), (1, .inl x1)], [.inr (.inr (some (10, 0)))], zfC M)) (b := true) (by decide +kernel) rfl rfl ?_
  refine zr_ldcS (w := 7) Hy.1 (by decide) rfl (by decide +kernel) ?_
  obtain ⟨r2, M2, hc2, h⟩ := zbd_inv h
  refine zcallV Hy.1 (as := [.inr (.inr (some (2100, 7)))]) (st := []) (m10_skipWord_met (zOK_G Hy.1) Hy.2.1 hc2) cw10_50 m10_skipWord_in m10_skipWord_se (by decide) (zhlv Hy.2.1 rfl) rfl (zroom Hy.2.2 ⟨by decide, by decide⟩) rfl (by decide +kernel) ⟨Nat.zero_le _, Nat.zero_le _⟩ ?_
  refine zblq Hy.1 Hy.2.1 [(.istore 2, 1), (.iload 2, 1)] (S' := (30, [(0, .inr (.inr (some (10, 0)))), (1, .inl x1), (2, .inl r2)], [.inl r2], zfC M2)) (b := true) (by decide +kernel) rfl rfl ?_
  refine zif_ne Hy.1 (off := 14) (tgt := 44) (by decide +kernel) (by decide) (fun hb9 => ?_) (fun hb9 => ?_)
  · replace h := zite_f h hb9
    refine zGo_keep [0, 1, 2] rfl ?_
    exact m10_readCond_44_ok Hy hE x1 r2 M2 h
  · replace h := zite_t h hb9
    refine zblq Hy.1 Hy.2.1 [(.aload 0, 1)] (S' := (34, [(0, .inr (.inr (some (10, 0)))), (1, .inl x1), (2, .inl r2)], [.inr (.inr (some (10, 0)))], zfC M2)) (b := true) (by decide +kernel) rfl rfl ?_
    refine zr_ldcS (w := 8) Hy.1 (by decide) rfl (by decide +kernel) ?_
    obtain ⟨r7, M7, hc7, h⟩ := zbd_inv h
    refine zcallV Hy.1 (as := [.inr (.inr (some (2100, 8)))]) (st := []) (m10_skipWord_met (zOK_G Hy.1) Hy.2.1 hc7) cw10_50 m10_skipWord_in m10_skipWord_se (by decide) (zhlv Hy.2.1 rfl) rfl (zroom Hy.2.2 ⟨by decide, by decide⟩) rfl (by decide +kernel) ⟨Nat.zero_le _, Nat.zero_le _⟩ ?_
    refine zif_ne Hy.1 (off := 5) (tgt := 44) (by decide +kernel) (by decide) (fun hb8 => ?_) (fun hb8 => ?_)
    · replace h := zite_f h hb8
      refine zGo_keep [0, 1, 2] rfl ?_
      exact m10_readCond_44_ok Hy hE x1 r2 M7 h
    · replace h := zite_t h hb8
      refine zblq Hy.1 Hy.2.1 [(.iconst 0, 1)] (S' := (43, [(0, .inr (.inr (some (10, 0)))), (1, .inl x1), (2, .inl r2)], [.inl (0 : Int32)], zfC M7)) (b := true) (by decide +kernel) rfl rfl ?_
      cases h
      exact zret_z Hy.1 Hy.2.2 (by decide) hE (by decide +kernel)
def m10_readCond  (M : cM) : Option (Int32 × cM) := zbd (m10_skipWord 6 M) (fun r1 M1 => (if r1 = 0 then zbd (m10_skipWord 4 M1) (fun r10 M10 => (if r10 = 0 then some ((0 : Int32), M10) else m10_readCond_22 r1 M10)) else m10_readCond_22 r1 M1))
theorem m10_readCond_ok {X : zX} {G : zG} (Hy : zHy X G q10_readCond zcC 5 107 (some .boolean)) {r : Int32} {M' : cM} (hE : zEnd X G (some (.inl r)) (zfC M'))  (M : cM) (h : m10_readCond M = some (r, M')) : zGo (X, q10_readCond, G) 0 0 (0, [(0, .inr (.inr (some (10, 0))))], [], zfC M) := by
  unfold m10_readCond at h
  refine zblq Hy.1 Hy.2.1 [(.aload 0, 1)] (S' := (1, [(0, .inr (.inr (some (10, 0))))], [.inr (.inr (some (10, 0)))], zfC M)) (b := true) (by decide +kernel) rfl rfl ?_
  refine zr_ldcS (w := 6) Hy.1 (by decide) rfl (by decide +kernel) ?_
  obtain ⟨r1, M1, hc1, h⟩ := zbd_inv h
  refine zcallV Hy.1 (as := [.inr (.inr (some (2100, 6)))]) (st := []) (m10_skipWord_met (zOK_G Hy.1) Hy.2.1 hc1) cw10_50 m10_skipWord_in m10_skipWord_se (by decide) (zhlv Hy.2.1 rfl) rfl (zroom Hy.2.2 ⟨by decide, by decide⟩) rfl (by decide +kernel) ⟨Nat.zero_le _, Nat.zero_le _⟩ ?_
  refine zblq Hy.1 Hy.2.1 [(.istore 1, 1), (.iload 1, 1)] (S' := (8, [(0, .inr (.inr (some (10, 0)))), (1, .inl r1)], [.inl r1], zfC M1)) (b := true) (by decide +kernel) rfl rfl ?_
  refine zif_ne Hy.1 (off := 14) (tgt := 22) (by decide +kernel) (by decide) (fun hb12 => ?_) (fun hb12 => ?_)
  · replace h := zite_f h hb12
    refine zGo_keep [0, 1] rfl ?_
    exact m10_readCond_22_ok Hy hE r1 M1 h
  · replace h := zite_t h hb12
    refine zblq Hy.1 Hy.2.1 [(.aload 0, 1)] (S' := (12, [(0, .inr (.inr (some (10, 0)))), (1, .inl r1)], [.inr (.inr (some (10, 0)))], zfC M1)) (b := true) (by decide +kernel) rfl rfl ?_
    refine zr_ldcS (w := 4) Hy.1 (by decide) rfl (by decide +kernel) ?_
    obtain ⟨r10, M10, hc10, h⟩ := zbd_inv h
    refine zcallV Hy.1 (as := [.inr (.inr (some (2100, 4)))]) (st := []) (m10_skipWord_met (zOK_G Hy.1) Hy.2.1 hc10) cw10_50 m10_skipWord_in m10_skipWord_se (by decide) (zhlv Hy.2.1 rfl) rfl (zroom Hy.2.2 ⟨by decide, by decide⟩) rfl (by decide +kernel) ⟨Nat.zero_le _, Nat.zero_le _⟩ ?_
    refine zif_ne Hy.1 (off := 5) (tgt := 22) (by decide +kernel) (by decide) (fun hb11 => ?_) (fun hb11 => ?_)
    · replace h := zite_f h hb11
      refine zGo_keep [0, 1] rfl ?_
      exact m10_readCond_22_ok Hy hE r1 M10 h
    · replace h := zite_t h hb11
      refine zblq Hy.1 Hy.2.1 [(.iconst 0, 1)] (S' := (21, [(0, .inr (.inr (some (10, 0)))), (1, .inl r1)], [.inl (0 : Int32)], zfC M10)) (b := true) (by decide +kernel) rfl rfl ?_
      cases h
      exact zret_z Hy.1 Hy.2.2 (by decide) hE (by decide +kernel)
theorem m10_readCond_met {l : Launch} {G : zG} (hG : zGok G) (hcn : zgcn G = zcC)  {M : cM} {r : Int32} {M' : cM} (h : m10_readCond M = some (r, M')) : zMet l G yX10_readCond cX10_readCond 4 (some .boolean) 5 107 [.inr (.inr (some (10, 0)))] (zfC M) (some (.inl r)) (zfC M') :=
  zMet_of hG tbX10_ok rfl (by decide +kernel) (Nat.le_of_ble_eq_true rfl) (fun X _ Z hA hE => m10_readCond_ok ⟨Z, hcn, hA⟩ hE M h)
abbrev q10_readConds : ByteArray × Nat × String × zT := (cX10_readConds, 2, RX10, tbX10)
def m10_readConds_22 : Nat → Int32 → cM → Option (Int32 × cM)
  | 0, _, _ => none
  | n + 1, x1, M => (if (8 : Int32) ≤ x1 then some ((1 : Int32), M) else zbd (m10_skipWord 9 M) (fun r3 M3 => (if r3 = 0 then some ((1 : Int32), M3) else zbd (m10_readCond M3) (fun r4 M4 => (if r4 = 0 then some ((0 : Int32), M4) else (m10_readConds_22 n) (x1 + (1 : Int32)) M4)))))
theorem m10_readConds_22_ok {X : zX} {G : zG} (Hy : zHy X G q10_readConds zcC 6 130 (some .boolean)) {r : Int32} {M' : cM} (hE : zEnd X G (some (.inl r)) (zfC M')) : ∀ (n : Nat) (x1 : Int32) (M : cM), m10_readConds_22 n x1 M = some (r, M') → zGo (X, q10_readConds, G) 0 0 (22, [(0, .inr (.inr (some (10, 0)))), (1, .inl x1)], [], zfC M) := by
  intro n
  induction n with
  | zero => intro x1 M h; cases h
  | succ n ih =>
    intro x1 M h
    unfold m10_readConds_22 at h
    refine zblq Hy.1 Hy.2.1 [(.iload 1, 1), (.iconst 8, 2)] (S' := (25, [(0, .inr (.inr (some (10, 0)))), (1, .inl x1)], [.inl (8 : Int32), .inl x1], zfC M)) (b := true) (by decide +kernel) rfl rfl ?_
    refine zic_ge Hy.1 (off := 29) (tgt := 54) (by decide +kernel) (by decide) (fun hb7 => ?_) (fun hb7 => ?_)
    · replace h := zite_t h hb7
      refine zblq Hy.1 Hy.2.1 [(.iconst 1, 1)] (S' := (55, [(0, .inr (.inr (some (10, 0)))), (1, .inl x1)], [.inl (1 : Int32)], zfC M)) (b := true) (by decide +kernel) rfl rfl ?_
      cases h
      exact zret_z Hy.1 Hy.2.2 (by decide) hE (by decide +kernel)
    · replace h := zite_f h hb7
      refine zblq Hy.1 Hy.2.1 [(.aload 0, 1)] (S' := (29, [(0, .inr (.inr (some (10, 0)))), (1, .inl x1)], [.inr (.inr (some (10, 0)))], zfC M)) (b := true) (by decide +kernel) rfl rfl ?_
      refine zr_ldcS (w := 9) Hy.1 (by decide) rfl (by decide +kernel) ?_
      obtain ⟨r3, M3, hc3, h⟩ := zbd_inv h
      refine zcallV Hy.1 (as := [.inr (.inr (some (2100, 9)))]) (st := []) (m10_skipWord_met (zOK_G Hy.1) Hy.2.1 hc3) cw10_50 m10_skipWord_in m10_skipWord_se (by decide) (zhlv Hy.2.1 rfl) rfl (zroom Hy.2.2 ⟨by decide, by decide⟩) rfl (by decide +kernel) ⟨Nat.zero_le _, Nat.zero_le _⟩ ?_
      refine zif_ne Hy.1 (off := 5) (tgt := 39) (by decide +kernel) (by decide) (fun hb6 => ?_) (fun hb6 => ?_)
      · replace h := zite_f h hb6
        refine zblq Hy.1 Hy.2.1 [(.aload 0, 1)] (S' := (40, [(0, .inr (.inr (some (10, 0)))), (1, .inl x1)], [.inr (.inr (some (10, 0)))], zfC M3)) (b := true) (by decide +kernel) rfl rfl ?_
        obtain ⟨r4, M4, hc4, h⟩ := zbd_inv h
        refine zcallV Hy.1 (as := []) (st := []) (m10_readCond_met (zOK_G Hy.1) Hy.2.1 hc4) cw10_67 m10_readCond_in m10_readCond_se (by decide) (zhlv Hy.2.1 rfl) rfl (zroom Hy.2.2 ⟨by decide, by decide⟩) rfl (by decide +kernel) ⟨Nat.zero_le _, Nat.zero_le _⟩ ?_
        refine zif_ne Hy.1 (off := 5) (tgt := 48) (by decide +kernel) (by decide) (fun hb5 => ?_) (fun hb5 => ?_)
        · replace h := zite_f h hb5
          refine zblq Hy.1 Hy.2.1 [(.iinc 1 1, 3), (.ldc 22, 3)] (S' := (22, [(0, .inr (.inr (some (10, 0)))), (1, .inl (x1 + (1 : Int32)))], [], zfC M4)) (b := true) (by decide +kernel) rfl rfl ?_
          refine zGo_keep [0, 1] rfl ?_
          exact ih (x1 + (1 : Int32)) M4 h
        · replace h := zite_t h hb5
          refine zblq Hy.1 Hy.2.1 [(.iconst 0, 1)] (S' := (47, [(0, .inr (.inr (some (10, 0)))), (1, .inl x1)], [.inl (0 : Int32)], zfC M4)) (b := true) (by decide +kernel) rfl rfl ?_
          cases h
          exact zret_z Hy.1 Hy.2.2 (by decide) hE (by decide +kernel)
      · replace h := zite_t h hb6
        refine zblq Hy.1 Hy.2.1 [(.iconst 1, 1)] (S' := (38, [(0, .inr (.inr (some (10, 0)))), (1, .inl x1)], [.inl (1 : Int32)], zfC M3)) (b := true) (by decide +kernel) rfl rfl ?_
        cases h
        exact zret_z Hy.1 Hy.2.2 (by decide) hE (by decide +kernel)
def m10_readConds  (M : cM) : Option (Int32 × cM) := zbd (m10_skipWord 5 M) (fun r1 M1 => (if r1 = 0 then some ((1 : Int32), M1) else zbd (m10_readCond M1) (fun r2 M2 => (if r2 = 0 then some ((0 : Int32), M2) else m10_readConds_22 zfu (1 : Int32) M2))))
theorem m10_readConds_ok {X : zX} {G : zG} (Hy : zHy X G q10_readConds zcC 6 130 (some .boolean)) {r : Int32} {M' : cM} (hE : zEnd X G (some (.inl r)) (zfC M'))  (M : cM) (h : m10_readConds M = some (r, M')) : zGo (X, q10_readConds, G) 0 0 (0, [(0, .inr (.inr (some (10, 0))))], [], zfC M) := by
  unfold m10_readConds at h
  refine zblq Hy.1 Hy.2.1 [(.aload 0, 1)] (S' := (1, [(0, .inr (.inr (some (10, 0))))], [.inr (.inr (some (10, 0)))], zfC M)) (b := true) (by decide +kernel) rfl rfl ?_
  refine zr_ldcS (w := 5) Hy.1 (by decide) rfl (by decide +kernel) ?_
  obtain ⟨r1, M1, hc1, h⟩ := zbd_inv h
  refine zcallV Hy.1 (as := [.inr (.inr (some (2100, 5)))]) (st := []) (m10_skipWord_met (zOK_G Hy.1) Hy.2.1 hc1) cw10_50 m10_skipWord_in m10_skipWord_se (by decide) (zhlv Hy.2.1 rfl) rfl (zroom Hy.2.2 ⟨by decide, by decide⟩) rfl (by decide +kernel) ⟨Nat.zero_le _, Nat.zero_le _⟩ ?_
  refine zif_ne Hy.1 (off := 5) (tgt := 11) (by decide +kernel) (by decide) (fun hb9 => ?_) (fun hb9 => ?_)
  · replace h := zite_f h hb9
    refine zblq Hy.1 Hy.2.1 [(.aload 0, 1)] (S' := (12, [(0, .inr (.inr (some (10, 0))))], [.inr (.inr (some (10, 0)))], zfC M1)) (b := true) (by decide +kernel) rfl rfl ?_
    obtain ⟨r2, M2, hc2, h⟩ := zbd_inv h
    refine zcallV Hy.1 (as := []) (st := []) (m10_readCond_met (zOK_G Hy.1) Hy.2.1 hc2) cw10_67 m10_readCond_in m10_readCond_se (by decide) (zhlv Hy.2.1 rfl) rfl (zroom Hy.2.2 ⟨by decide, by decide⟩) rfl (by decide +kernel) ⟨Nat.zero_le _, Nat.zero_le _⟩ ?_
    refine zif_ne Hy.1 (off := 5) (tgt := 20) (by decide +kernel) (by decide) (fun hb8 => ?_) (fun hb8 => ?_)
    · replace h := zite_f h hb8
      refine zblq Hy.1 Hy.2.1 [(.iconst 1, 1), (.istore 1, 1)] (S' := (22, [(0, .inr (.inr (some (10, 0)))), (1, .inl (1 : Int32))], [], zfC M2)) (b := true) (by decide +kernel) rfl rfl ?_
      refine zGo_keep [0, 1] rfl ?_
      exact m10_readConds_22_ok Hy hE zfu (1 : Int32) M2 h
    · replace h := zite_t h hb8
      refine zblq Hy.1 Hy.2.1 [(.iconst 0, 1)] (S' := (19, [(0, .inr (.inr (some (10, 0))))], [.inl (0 : Int32)], zfC M2)) (b := true) (by decide +kernel) rfl rfl ?_
      cases h
      exact zret_z Hy.1 Hy.2.2 (by decide) hE (by decide +kernel)
  · replace h := zite_t h hb9
    refine zblq Hy.1 Hy.2.1 [(.iconst 1, 1)] (S' := (10, [(0, .inr (.inr (some (10, 0))))], [.inl (1 : Int32)], zfC M1)) (b := true) (by decide +kernel) rfl rfl ?_
    cases h
    exact zret_z Hy.1 Hy.2.2 (by decide) hE (by decide +kernel)
theorem m10_readConds_met {l : Launch} {G : zG} (hG : zGok G) (hcn : zgcn G = zcC)  {M : cM} {r : Int32} {M' : cM} (h : m10_readConds M = some (r, M')) : zMet l G yX10_readConds cX10_readConds 2 (some .boolean) 6 130 [.inr (.inr (some (10, 0)))] (zfC M) (some (.inl r)) (zfC M') :=
  zMet_of hG tbX10_ok rfl (by decide +kernel) (Nat.le_of_ble_eq_true rfl) (fun X _ Z hA hE => m10_readConds_ok ⟨Z, hcn, hA⟩ hE M h)
