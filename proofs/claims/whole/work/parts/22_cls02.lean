abbrev q3_mend : ByteArray × Nat × String × zT := (cX3_mend, 5, RX3, tbX3)
def m3_mend_127 (k43 : Int32 → Int32 → cM → Option (Int32 × cM)) (x2 : Int32) (x3 : Int32) (M : cM) : Option (Int32 × cM) := k43 x2 (x3 + (1 : Int32)) M
theorem m3_mend_127_ok {X : zX} {G : zG} (Hy : zHy X G q3_mend zcC 3 65 (some .boolean)) {r : Int32} {M' : cM} (hE : zEnd X G (some (.inl r)) (zfC M')) {k43 : Int32 → Int32 → cM → Option (Int32 × cM)} (hk43 : ∀ (x2 : Int32) (x3 : Int32) (M : cM), k43 x2 x3 M = some (r, M') → zGo (X, q3_mend, G) 0 0 (43, [(0, .inr (.inr (some (3, 0)))), (2, .inl x2), (3, .inl x3)], [], zfC M)) (x2 : Int32) (x3 : Int32) (M : cM) (h : m3_mend_127 k43 x2 x3 M = some (r, M')) : zGo (X, q3_mend, G) 0 0 (127, [(0, .inr (.inr (some (3, 0)))), (2, .inl x2), (3, .inl x3)], [], zfC M) := by
  unfold m3_mend_127 at h
  refine zblq Hy.1 Hy.2.1 [(.iinc 3 1, 3), (.ldc 43, 3)] (S' := (43, [(0, .inr (.inr (some (3, 0)))), (2, .inl x2), (3, .inl (x3 + (1 : Int32)))], [], zfC M)) (b := true) (by decide +kernel) rfl rfl ?_
  refine zGo_keep [0, 2, 3] rfl ?_
  exact hk43 x2 (x3 + (1 : Int32)) M h
def m3_mend_105 (k43 : Int32 → Int32 → cM → Option (Int32 × cM)) (x2 : Int32) (x3 : Int32) (i4 : Nat) (M : cM) : Option (Int32 × cM) := zgd (zin x3 10 && ((Nat.blt i4 10 && true) && (zin x3 10 && ((Nat.blt i4 10 && true) && true)))) (m3_mend_127 k43 x2 x3 (cs (cs M 2 i4 8 (cg M 402 0 (nx x3))) 2 i4 7 (cg (cs M 2 i4 8 (cg M 402 0 (nx x3))) 403 0 (nx x3))))
theorem m3_mend_105_ok {X : zX} {G : zG} (Hy : zHy X G q3_mend zcC 3 65 (some .boolean)) {r : Int32} {M' : cM} (hE : zEnd X G (some (.inl r)) (zfC M')) {k43 : Int32 → Int32 → cM → Option (Int32 × cM)} (hk43 : ∀ (x2 : Int32) (x3 : Int32) (M : cM), k43 x2 x3 M = some (r, M') → zGo (X, q3_mend, G) 0 0 (43, [(0, .inr (.inr (some (3, 0)))), (2, .inl x2), (3, .inl x3)], [], zfC M)) (x2 : Int32) (x3 : Int32) (i4 : Nat) (M : cM) (h : m3_mend_105 k43 x2 x3 i4 M = some (r, M')) : zGo (X, q3_mend, G) 0 0 (105, [(0, .inr (.inr (some (3, 0)))), (2, .inl x2), (3, .inl x3), (4, .inr (.inr (some (2, i4))))], [], zfC M) := by
  unfold m3_mend_105 at h
  obtain ⟨hg8, h⟩ := zgd_inv h
  refine zblq Hy.1 Hy.2.1 [(.aload 4, 2), (.aload 0, 1), (.getfield 302, 3), (.iload 3, 1), (.iaload, 1), (.invokeinterface 2 8, 3), (.aload 4, 2), (.aload 0, 1), (.getfield 303, 3), (.iload 3, 1), (.iaload, 1), (.invokeinterface 2 7, 3)] (S' := (127, [(0, .inr (.inr (some (3, 0)))), (2, .inl x2), (3, .inl x3), (4, .inr (.inr (some (2, i4))))], [], zfC (cs (cs M 2 i4 8 (cg M 402 0 (nx x3))) 2 i4 7 (cg (cs M 2 i4 8 (cg M 402 0 (nx x3))) 403 0 (nx x3))))) (b := zin x3 10 && ((Nat.blt i4 10 && true) && (zin x3 10 && ((Nat.blt i4 10 && true) && true)))) (by decide +kernel) rfl hg8 ?_
  refine zGo_keep [0, 2, 3] rfl ?_
  exact m3_mend_127_ok Hy hE hk43 x2 x3 (cs (cs M 2 i4 8 (cg M 402 0 (nx x3))) 2 i4 7 (cg (cs M 2 i4 8 (cg M 402 0 (nx x3))) 403 0 (nx x3))) h
def m3_mend_103 (k43 : Int32 → Int32 → cM → Option (Int32 × cM)) (x3 : Int32) (i4 : Nat) (M : cM) : Option (Int32 × cM) := m3_mend_105 k43 (1 : Int32) x3 i4 M
theorem m3_mend_103_ok {X : zX} {G : zG} (Hy : zHy X G q3_mend zcC 3 65 (some .boolean)) {r : Int32} {M' : cM} (hE : zEnd X G (some (.inl r)) (zfC M')) {k43 : Int32 → Int32 → cM → Option (Int32 × cM)} (hk43 : ∀ (x2 : Int32) (x3 : Int32) (M : cM), k43 x2 x3 M = some (r, M') → zGo (X, q3_mend, G) 0 0 (43, [(0, .inr (.inr (some (3, 0)))), (2, .inl x2), (3, .inl x3)], [], zfC M)) (x3 : Int32) (i4 : Nat) (M : cM) (h : m3_mend_103 k43 x3 i4 M = some (r, M')) : zGo (X, q3_mend, G) 0 0 (103, [(0, .inr (.inr (some (3, 0)))), (3, .inl x3), (4, .inr (.inr (some (2, i4))))], [], zfC M) := by
  unfold m3_mend_103 at h
  refine zblq Hy.1 Hy.2.1 [(.iconst 1, 1), (.istore 2, 1)] (S' := (105, [(0, .inr (.inr (some (3, 0)))), (2, .inl (1 : Int32)), (3, .inl x3), (4, .inr (.inr (some (2, i4))))], [], zfC M)) (b := true) (by decide +kernel) rfl rfl ?_
  refine zGo_keep [0, 2, 3, 4] rfl ?_
  exact m3_mend_105_ok Hy hE hk43 (1 : Int32) x3 i4 M h
def m3_mend_43 : Nat → Int32 → Int32 → cM → Option (Int32 × cM)
  | 0, _, _, _ => none
  | n + 1, x2, x3, M => (if (cg M 3 0 4) ≤ x3 then zgd (zbl x2) (some (x2, M)) else (if (10 : Int32) ≤ x3 then zgd (zbl x2) (some (x2, M)) else zbd (m3_of x3 M) (fun r4 M4 => zgd (Nat.blt r4 10) (zbd (m2_isDead r4 M4) (fun r5 M5 => (if r5 = 0 then zgd (Nat.blt r4 10 && (zin x3 10 && true)) ((if (cg M5 2 r4 8) = (cg M5 402 0 (nx x3)) then zgd (Nat.blt r4 10 && (zin x3 10 && true)) ((if (cg M5 2 r4 7) = (cg M5 403 0 (nx x3)) then m3_mend_105 (m3_mend_43 n) x2 x3 r4 M5 else m3_mend_103 (m3_mend_43 n) x3 r4 M5)) else m3_mend_103 (m3_mend_43 n) x3 r4 M5)) else m3_mend_127 (m3_mend_43 n) x2 x3 M5))))))
theorem m3_mend_43_ok {X : zX} {G : zG} (Hy : zHy X G q3_mend zcC 3 65 (some .boolean)) {r : Int32} {M' : cM} (hE : zEnd X G (some (.inl r)) (zfC M')) : ∀ (n : Nat) (x2 : Int32) (x3 : Int32) (M : cM), m3_mend_43 n x2 x3 M = some (r, M') → zGo (X, q3_mend, G) 0 0 (43, [(0, .inr (.inr (some (3, 0)))), (2, .inl x2), (3, .inl x3)], [], zfC M) := by
  intro n
  induction n with
  | zero => intro x2 x3 M h; cases h
  | succ n ih =>
    intro x2 x3 M h
    unfold m3_mend_43 at h
    refine zblq Hy.1 Hy.2.1 [(.iload 3, 1), (.aload 0, 1), (.multianewarray 3 4, 3)] (S' := (48, [(0, .inr (.inr (some (3, 0)))), (2, .inl x2), (3, .inl x3)], [.inl (cg M 3 0 4), .inl x3], zfC M)) (b := true) (by decide +kernel) rfl rfl ?_
    refine zic_ge Hy.1 (off := 85) (tgt := 133) (by decide +kernel) (by decide) (fun hb14 => ?_) (fun hb14 => ?_)
    · replace h := zite_t h hb14
      refine zblq Hy.1 Hy.2.1 [(.iload 2, 1)] (S' := (134, [(0, .inr (.inr (some (3, 0)))), (2, .inl x2), (3, .inl x3)], [.inl x2], zfC M)) (b := true) (by decide +kernel) rfl rfl ?_
      obtain ⟨hg2, h⟩ := zgd_inv h
      cases h
      exact zret_z Hy.1 Hy.2.2 hg2 hE (by decide +kernel)
    · replace h := zite_f h hb14
      refine zblq Hy.1 Hy.2.1 [(.iload 3, 1), (.iconst 10, 2)] (S' := (54, [(0, .inr (.inr (some (3, 0)))), (2, .inl x2), (3, .inl x3)], [.inl (10 : Int32), .inl x3], zfC M)) (b := true) (by decide +kernel) rfl rfl ?_
      refine zic_ge Hy.1 (off := 79) (tgt := 133) (by decide +kernel) (by decide) (fun hb13 => ?_) (fun hb13 => ?_)
      · replace h := zite_t h hb13
        refine zblq Hy.1 Hy.2.1 [(.iload 2, 1)] (S' := (134, [(0, .inr (.inr (some (3, 0)))), (2, .inl x2), (3, .inl x3)], [.inl x2], zfC M)) (b := true) (by decide +kernel) rfl rfl ?_
        obtain ⟨hg3, h⟩ := zgd_inv h
        cases h
        exact zret_z Hy.1 Hy.2.2 hg3 hE (by decide +kernel)
      · replace h := zite_f h hb13
        refine zblq Hy.1 Hy.2.1 [(.aload 0, 1), (.iload 3, 1)] (S' := (59, [(0, .inr (.inr (some (3, 0)))), (2, .inl x2), (3, .inl x3)], [.inl x3, .inr (.inr (some (3, 0)))], zfC M)) (b := true) (by decide +kernel) rfl rfl ?_
        obtain ⟨r4, M4, hc4, h⟩ := zbd_inv h
        refine zcallV Hy.1 (as := [.inl x3]) (st := []) (m3_of_met (zOK_G Hy.1) Hy.2.1 hc4) cw3_63 m3_of_in m3_of_se (by decide) (zhlv Hy.2.1 rfl) rfl (zroom Hy.2.2 ⟨by decide, by decide⟩) rfl (by decide +kernel) ⟨Nat.zero_le _, Nat.zero_le _⟩ ?_
        refine zblq Hy.1 Hy.2.1 [(.astore 4, 2), (.aload 4, 2)] (S' := (66, [(0, .inr (.inr (some (3, 0)))), (2, .inl x2), (3, .inl x3), (4, .inr (.inr (some (2, r4))))], [.inr (.inr (some (2, r4)))], zfC M4)) (b := true) (by decide +kernel) rfl rfl ?_
        obtain ⟨hg6, h⟩ := zgd_inv h
        obtain ⟨r5, M5, hc5, h⟩ := zbd_inv h
        refine zcallV Hy.1 (as := []) (st := []) (m2_isDead_met (zOK_G Hy.1) Hy.2.1 hc5) cw3_67 m2_isDead_in m2_isDead_se (by decide) (zhlv Hy.2.1 hg6) rfl (zroom Hy.2.2 ⟨by decide, by decide⟩) rfl (by decide +kernel) ⟨Nat.zero_le _, Nat.zero_le _⟩ ?_
        refine zif_eq Hy.1 (off := 6) (tgt := 75) (by decide +kernel) (by decide) (fun hb12 => ?_) (fun hb12 => ?_)
        · replace h := zite_t h hb12
          obtain ⟨hg7, h⟩ := zgd_inv h
          refine zblq Hy.1 Hy.2.1 [(.aload 4, 2), (.multianewarray 2 8, 3), (.aload 0, 1), (.getfield 302, 3), (.iload 3, 1), (.iaload, 1)] (S' := (86, [(0, .inr (.inr (some (3, 0)))), (2, .inl x2), (3, .inl x3), (4, .inr (.inr (some (2, r4))))], [.inl (cg M5 402 0 (nx x3)), .inl (cg M5 2 r4 8)], zfC M5)) (b := Nat.blt r4 10 && (zin x3 10 && true)) (by decide +kernel) rfl hg7 ?_
          refine zic_ne Hy.1 (off := 17) (tgt := 103) (by decide +kernel) (by decide) (fun hb11 => ?_) (fun hb11 => ?_)
          · replace h := zite_f h hb11
            refine zGo_keep [0, 3, 4] rfl ?_
            exact m3_mend_103_ok Hy hE ih x3 r4 M5 h
          · replace h := zite_t h hb11
            obtain ⟨hg9, h⟩ := zgd_inv h
            refine zblq Hy.1 Hy.2.1 [(.aload 4, 2), (.multianewarray 2 7, 3), (.aload 0, 1), (.getfield 303, 3), (.iload 3, 1), (.iaload, 1)] (S' := (100, [(0, .inr (.inr (some (3, 0)))), (2, .inl x2), (3, .inl x3), (4, .inr (.inr (some (2, r4))))], [.inl (cg M5 403 0 (nx x3)), .inl (cg M5 2 r4 7)], zfC M5)) (b := Nat.blt r4 10 && (zin x3 10 && true)) (by decide +kernel) rfl hg9 ?_
            refine zic_eq Hy.1 (off := 5) (tgt := 105) (by decide +kernel) (by decide) (fun hb10 => ?_) (fun hb10 => ?_)
            · replace h := zite_t h hb10
              refine zGo_keep [0, 2, 3, 4] rfl ?_
              exact m3_mend_105_ok Hy hE ih x2 x3 r4 M5 h
            · replace h := zite_f h hb10
              refine zGo_keep [0, 3, 4] rfl ?_
              exact m3_mend_103_ok Hy hE ih x3 r4 M5 h
        · replace h := zite_f h hb12
          refine zblq Hy.1 Hy.2.1 [(.ldc 127, 3)] (S' := (127, [(0, .inr (.inr (some (3, 0)))), (2, .inl x2), (3, .inl x3), (4, .inr (.inr (some (2, r4))))], [], zfC M5)) (b := true) (by decide +kernel) rfl rfl ?_
          refine zGo_keep [0, 2, 3] rfl ?_
          exact m3_mend_127_ok Hy hE ih x2 x3 M5 h
def m3_mend_39  (M : cM) : Option (Int32 × cM) := m3_mend_43 zfu (0 : Int32) (1 : Int32) M
theorem m3_mend_39_ok {X : zX} {G : zG} (Hy : zHy X G q3_mend zcC 3 65 (some .boolean)) {r : Int32} {M' : cM} (hE : zEnd X G (some (.inl r)) (zfC M'))  (M : cM) (h : m3_mend_39 M = some (r, M')) : zGo (X, q3_mend, G) 0 0 (39, [(0, .inr (.inr (some (3, 0))))], [], zfC M) := by
  unfold m3_mend_39 at h
  refine zblq Hy.1 Hy.2.1 [(.iconst 0, 1), (.istore 2, 1), (.iconst 1, 1), (.istore 3, 1)] (S' := (43, [(0, .inr (.inr (some (3, 0)))), (2, .inl (0 : Int32)), (3, .inl (1 : Int32))], [], zfC M)) (b := true) (by decide +kernel) rfl rfl ?_
  refine zGo_keep [0, 2, 3] rfl ?_
  exact m3_mend_43_ok Hy hE zfu (0 : Int32) (1 : Int32) M h
def m3_mend_7 : Nat → Int32 → Int32 → cM → Option (Int32 × cM)
  | 0, _, _, _ => none
  | n + 1, x1, x2, M => (if (cg M 3 0 4) ≤ x2 then m3_mend_39 M else (if (10 : Int32) ≤ x2 then m3_mend_39 M else zbd (m3_friends x2 M) (fun r15 M15 => zbv (m3_lookHome x2 (x1 &&& r15) M15) (fun M16 => (m3_mend_7 n) x1 (x2 + (1 : Int32)) M16))))
theorem m3_mend_7_ok {X : zX} {G : zG} (Hy : zHy X G q3_mend zcC 3 65 (some .boolean)) {r : Int32} {M' : cM} (hE : zEnd X G (some (.inl r)) (zfC M')) : ∀ (n : Nat) (x1 : Int32) (x2 : Int32) (M : cM), m3_mend_7 n x1 x2 M = some (r, M') → zGo (X, q3_mend, G) 0 0 (7, [(0, .inr (.inr (some (3, 0)))), (1, .inl x1), (2, .inl x2)], [], zfC M) := by
  intro n
  induction n with
  | zero => intro x1 x2 M h; cases h
  | succ n ih =>
    intro x1 x2 M h
    unfold m3_mend_7 at h
    refine zblq Hy.1 Hy.2.1 [(.iload 2, 1), (.aload 0, 1), (.multianewarray 3 4, 3)] (S' := (12, [(0, .inr (.inr (some (3, 0)))), (1, .inl x1), (2, .inl x2)], [.inl (cg M 3 0 4), .inl x2], zfC M)) (b := true) (by decide +kernel) rfl rfl ?_
    refine zic_ge Hy.1 (off := 27) (tgt := 39) (by decide +kernel) (by decide) (fun hb18 => ?_) (fun hb18 => ?_)
    · replace h := zite_t h hb18
      refine zGo_keep [0] rfl ?_
      exact m3_mend_39_ok Hy hE M h
    · replace h := zite_f h hb18
      refine zblq Hy.1 Hy.2.1 [(.iload 2, 1), (.iconst 10, 2)] (S' := (18, [(0, .inr (.inr (some (3, 0)))), (1, .inl x1), (2, .inl x2)], [.inl (10 : Int32), .inl x2], zfC M)) (b := true) (by decide +kernel) rfl rfl ?_
      refine zic_ge Hy.1 (off := 21) (tgt := 39) (by decide +kernel) (by decide) (fun hb17 => ?_) (fun hb17 => ?_)
      · replace h := zite_t h hb17
        refine zGo_keep [0] rfl ?_
        exact m3_mend_39_ok Hy hE M h
      · replace h := zite_f h hb17
        refine zblq Hy.1 Hy.2.1 [(.aload 0, 1), (.iload 2, 1), (.iload 1, 1), (.aload 0, 1), (.iload 2, 1)] (S' := (26, [(0, .inr (.inr (some (3, 0)))), (1, .inl x1), (2, .inl x2)], [.inl x2, .inr (.inr (some (3, 0))), .inl x1, .inl x2, .inr (.inr (some (3, 0)))], zfC M)) (b := true) (by decide +kernel) rfl rfl ?_
        obtain ⟨r15, M15, hc15, h⟩ := zbd_inv h
        refine zcallV Hy.1 (as := [.inl x2]) (st := [.inl x1, .inl x2, .inr (.inr (some (3, 0)))]) (m3_friends_met (zOK_G Hy.1) Hy.2.1 hc15) cw3_87 m3_friends_in m3_friends_se (by decide) (zhlv Hy.2.1 rfl) rfl (zroom Hy.2.2 ⟨by decide, by decide⟩) rfl (by decide +kernel) ⟨Nat.zero_le _, Nat.zero_le _⟩ ?_
        refine zblq Hy.1 Hy.2.1 [(.iand, 1)] (S' := (30, [(0, .inr (.inr (some (3, 0)))), (1, .inl x1), (2, .inl x2)], [.inl (x1 &&& r15), .inl x2, .inr (.inr (some (3, 0)))], zfC M15)) (b := true) (by decide +kernel) rfl rfl ?_
        obtain ⟨M16, hc16, h⟩ := zbv_inv h
        refine zcallV Hy.1 (as := [.inl x2, .inl (x1 &&& r15)]) (st := []) (m3_lookHome_met (zOK_G Hy.1) Hy.2.1 hc16) cw3_90 m3_lookHome_in m3_lookHome_se (by decide) (zhlv Hy.2.1 rfl) rfl (zroom Hy.2.2 ⟨by decide, by decide⟩) rfl (by decide +kernel) ⟨Nat.zero_le _, Nat.zero_le _⟩ ?_
        refine zblq Hy.1 Hy.2.1 [(.iinc 2 1, 3), (.ldc 7, 3)] (S' := (7, [(0, .inr (.inr (some (3, 0)))), (1, .inl x1), (2, .inl (x2 + (1 : Int32)))], [], zfC M16)) (b := true) (by decide +kernel) rfl rfl ?_
        refine zGo_keep [0, 1, 2] rfl ?_
        exact ih x1 (x2 + (1 : Int32)) M16 h
def m3_mend  (M : cM) : Option (Int32 × cM) := zbd (m3_living M) (fun r1 M1 => m3_mend_7 zfu r1 (1 : Int32) M1)
theorem m3_mend_ok {X : zX} {G : zG} (Hy : zHy X G q3_mend zcC 3 65 (some .boolean)) {r : Int32} {M' : cM} (hE : zEnd X G (some (.inl r)) (zfC M'))  (M : cM) (h : m3_mend M = some (r, M')) : zGo (X, q3_mend, G) 0 0 (0, [(0, .inr (.inr (some (3, 0))))], [], zfC M) := by
  unfold m3_mend at h
  refine zblq Hy.1 Hy.2.1 [(.aload 0, 1)] (S' := (1, [(0, .inr (.inr (some (3, 0))))], [.inr (.inr (some (3, 0)))], zfC M)) (b := true) (by decide +kernel) rfl rfl ?_
  obtain ⟨r1, M1, hc1, h⟩ := zbd_inv h
  refine zcallV Hy.1 (as := []) (st := []) (m3_living_met (zOK_G Hy.1) Hy.2.1 hc1) cw3_53 m3_living_in m3_living_se (by decide) (zhlv Hy.2.1 rfl) rfl (zroom Hy.2.2 ⟨by decide, by decide⟩) rfl (by decide +kernel) ⟨Nat.zero_le _, Nat.zero_le _⟩ ?_
  refine zblq Hy.1 Hy.2.1 [(.istore 1, 1), (.iconst 1, 1), (.istore 2, 1)] (S' := (7, [(0, .inr (.inr (some (3, 0)))), (1, .inl r1), (2, .inl (1 : Int32))], [], zfC M1)) (b := true) (by decide +kernel) rfl rfl ?_
  refine zGo_keep [0, 1, 2] rfl ?_
  exact m3_mend_7_ok Hy hE zfu r1 (1 : Int32) M1 h
theorem m3_mend_met {l : Launch} {G : zG} (hG : zGok G) (hcn : zgcn G = zcC)  {M : cM} {r : Int32} {M' : cM} (h : m3_mend M = some (r, M')) : zMet l G yX3_mend cX3_mend 5 (some .boolean) 3 65 [.inr (.inr (some (3, 0)))] (zfC M) (some (.inl r)) (zfC M') :=
  zMet_of hG tbX3_ok rfl (by decide +kernel) (Nat.le_of_ble_eq_true rfl) (fun X _ Z hA hE => m3_mend_ok ⟨Z, hcn, hA⟩ hE M h)
abbrev q11_rounds : ByteArray × Nat × String × zT := (cX11_rounds, 4, RX11, tbX11)
def m11_rounds_35 (k17 : Int32 → Int32 → Int32 → cM → Option (Int32 × cM)) (x1 : Int32) (x2 : Int32) (x3 : Int32) (M : cM) : Option (Int32 × cM) := k17 x1 x2 (x3 + (1 : Int32)) M
theorem m11_rounds_35_ok {X : zX} {G : zG} (Hy : zHy X G q11_rounds zcC 4 89 (some .int)) {r : Int32} {M' : cM} (hE : zEnd X G (some (.inl r)) (zfC M')) {k17 : Int32 → Int32 → Int32 → cM → Option (Int32 × cM)} (hk17 : ∀ (x1 : Int32) (x2 : Int32) (x3 : Int32) (M : cM), k17 x1 x2 x3 M = some (r, M') → zGo (X, q11_rounds, G) 0 0 (17, [(0, .inr (.inr (some (11, 0)))), (1, .inl x1), (2, .inl x2), (3, .inl x3)], [], zfC M)) (x1 : Int32) (x2 : Int32) (x3 : Int32) (M : cM) (h : m11_rounds_35 k17 x1 x2 x3 M = some (r, M')) : zGo (X, q11_rounds, G) 0 0 (35, [(0, .inr (.inr (some (11, 0)))), (1, .inl x1), (2, .inl x2), (3, .inl x3)], [], zfC M) := by
  unfold m11_rounds_35 at h
  refine zblq Hy.1 Hy.2.1 [(.iinc 3 1, 3), (.ldc 17, 3)] (S' := (17, [(0, .inr (.inr (some (11, 0)))), (1, .inl x1), (2, .inl x2), (3, .inl (x3 + (1 : Int32)))], [], zfC M)) (b := true) (by decide +kernel) rfl rfl ?_
  refine zGo_keep [0, 1, 2, 3] rfl ?_
  exact hk17 x1 x2 (x3 + (1 : Int32)) M h
def m11_rounds_17 : Nat → Int32 → Int32 → Int32 → cM → Option (Int32 × cM)
  | 0, _, _, _, _ => none
  | n + 1, x1, x2, x3, M => (if x1 ≤ x3 then some (x2, M) else zbd (m3_mend M) (fun r2 M2 => (if r2 = 0 then m11_rounds_35 (m11_rounds_17 n) x1 x2 x3 M2 else m11_rounds_35 (m11_rounds_17 n) x1 (x2 + (1 : Int32)) x3 M2)))
theorem m11_rounds_17_ok {X : zX} {G : zG} (Hy : zHy X G q11_rounds zcC 4 89 (some .int)) {r : Int32} {M' : cM} (hE : zEnd X G (some (.inl r)) (zfC M')) : ∀ (n : Nat) (x1 : Int32) (x2 : Int32) (x3 : Int32) (M : cM), m11_rounds_17 n x1 x2 x3 M = some (r, M') → zGo (X, q11_rounds, G) 0 0 (17, [(0, .inr (.inr (some (11, 0)))), (1, .inl x1), (2, .inl x2), (3, .inl x3)], [], zfC M) := by
  intro n
  induction n with
  | zero => intro x1 x2 x3 M h; cases h
  | succ n ih =>
    intro x1 x2 x3 M h
    unfold m11_rounds_17 at h
    refine zblq Hy.1 Hy.2.1 [(.iload 3, 1), (.iload 1, 1)] (S' := (19, [(0, .inr (.inr (some (11, 0)))), (1, .inl x1), (2, .inl x2), (3, .inl x3)], [.inl x1, .inl x3], zfC M)) (b := true) (by decide +kernel) rfl rfl ?_
    refine zic_ge Hy.1 (off := 22) (tgt := 41) (by decide +kernel) (by decide) (fun hb4 => ?_) (fun hb4 => ?_)
    · replace h := zite_t h hb4
      refine zblq Hy.1 Hy.2.1 [(.iload 2, 1)] (S' := (42, [(0, .inr (.inr (some (11, 0)))), (1, .inl x1), (2, .inl x2), (3, .inl x3)], [.inl x2], zfC M)) (b := true) (by decide +kernel) rfl rfl ?_
      cases h
      exact zret_i Hy.1 Hy.2.2 hE (by decide +kernel)
    · replace h := zite_f h hb4
      refine zblq Hy.1 Hy.2.1 [(.aload 0, 1), (.getfield 1100, 3)] (S' := (26, [(0, .inr (.inr (some (11, 0)))), (1, .inl x1), (2, .inl x2), (3, .inl x3)], [.inr (.inr (some (3, 0)))], zfC M)) (b := true) (by decide +kernel) rfl rfl ?_
      obtain ⟨r2, M2, hc2, h⟩ := zbd_inv h
      refine zcallV Hy.1 (as := []) (st := []) (m3_mend_met (zOK_G Hy.1) Hy.2.1 hc2) cw11_140 m3_mend_in m3_mend_se (by decide) (zhlv Hy.2.1 rfl) rfl (zroom Hy.2.2 ⟨by decide, by decide⟩) rfl (by decide +kernel) ⟨Nat.zero_le _, Nat.zero_le _⟩ ?_
      refine zif_eq Hy.1 (off := 6) (tgt := 35) (by decide +kernel) (by decide) (fun hb3 => ?_) (fun hb3 => ?_)
      · replace h := zite_t h hb3
        refine zGo_keep [0, 1, 2, 3] rfl ?_
        exact m11_rounds_35_ok Hy hE ih x1 x2 x3 M2 h
      · replace h := zite_f h hb3
        refine zblq Hy.1 Hy.2.1 [(.iinc 2 1, 3)] (S' := (35, [(0, .inr (.inr (some (11, 0)))), (1, .inl x1), (2, .inl (x2 + (1 : Int32))), (3, .inl x3)], [], zfC M2)) (b := true) (by decide +kernel) rfl rfl ?_
        refine zGo_keep [0, 1, 2, 3] rfl ?_
        exact m11_rounds_35_ok Hy hE ih x1 (x2 + (1 : Int32)) x3 M2 h
def m11_rounds (x1 : Int32) (M : cM) : Option (Int32 × cM) := zbd (m11_outside x1 (1 : Int32) (20 : Int32) M) (fun r1 M1 => (if r1 = 0 then m11_rounds_17 zfu x1 (0 : Int32) (0 : Int32) M1 else some ((-3 : Int32), M1)))
theorem m11_rounds_ok {X : zX} {G : zG} (Hy : zHy X G q11_rounds zcC 4 89 (some .int)) {r : Int32} {M' : cM} (hE : zEnd X G (some (.inl r)) (zfC M')) (x1 : Int32) (M : cM) (h : m11_rounds x1 M = some (r, M')) : zGo (X, q11_rounds, G) 0 0 (0, [(0, .inr (.inr (some (11, 0)))), (1, .inl x1)], [], zfC M) := by
  unfold m11_rounds at h
  refine zblq Hy.1 Hy.2.1 [(.iload 1, 1), (.iconst 1, 1), (.iconst 20, 2)] (S' := (4, [(0, .inr (.inr (some (11, 0)))), (1, .inl x1)], [.inl (20 : Int32), .inl (1 : Int32), .inl x1], zfC M)) (b := true) (by decide +kernel) rfl rfl ?_
  obtain ⟨r1, M1, hc1, h⟩ := zbd_inv h
  refine zcallS Hy.1 (as := [.inl x1, .inl (1 : Int32), .inl (20 : Int32)]) (st := []) (m11_outside_met (zOK_G Hy.1) Hy.2.1 hc1) cw11_66 m11_outside_in rfl (zroom Hy.2.2 ⟨by decide, by decide⟩) rfl (by decide +kernel) ⟨Nat.zero_le _, Nat.zero_le _⟩ ?_
  refine zif_eq Hy.1 (off := 6) (tgt := 13) (by decide +kernel) (by decide) (fun hb5 => ?_) (fun hb5 => ?_)
  · replace h := zite_t h hb5
    refine zblq Hy.1 Hy.2.1 [(.iconst 0, 1), (.istore 2, 1), (.iconst 0, 1), (.istore 3, 1)] (S' := (17, [(0, .inr (.inr (some (11, 0)))), (1, .inl x1), (2, .inl (0 : Int32)), (3, .inl (0 : Int32))], [], zfC M1)) (b := true) (by decide +kernel) rfl rfl ?_
    refine zGo_keep [0, 1, 2, 3] rfl ?_
    exact m11_rounds_17_ok Hy hE zfu x1 (0 : Int32) (0 : Int32) M1 h
  · replace h := zite_f h hb5
    refine zblq Hy.1 Hy.2.1 [(.iconst (-3), 2)] (S' := (12, [(0, .inr (.inr (some (11, 0)))), (1, .inl x1)], [.inl (-3 : Int32)], zfC M1)) (b := true) (by decide +kernel) rfl rfl ?_
    cases h
    exact zret_i Hy.1 Hy.2.2 hE (by decide +kernel)
theorem m11_rounds_met {l : Launch} {G : zG} (hG : zGok G) (hcn : zgcn G = zcC) {x1 : Int32} {M : cM} {r : Int32} {M' : cM} (h : m11_rounds x1 M = some (r, M')) : zMet l G yX11_rounds cX11_rounds 4 (some .int) 4 89 [.inr (.inr (some (11, 0))), .inl x1] (zfC M) (some (.inl r)) (zfC M') :=
  zMet_of hG tbX11_ok rfl (by decide +kernel) (Nat.le_of_ble_eq_true rfl) (fun X _ Z hA hE => m11_rounds_ok ⟨Z, hcn, hA⟩ hE x1 M h)
abbrev q3_isLeastOfRing : ByteArray × Nat × String × zT := (cX3_isLeastOfRing, 4, RX3, tbX3)
def m3_isLeastOfRing_11 : Nat → Int32 → Int32 → Int32 → cM → Option (Int32 × cM)
  | 0, _, _, _, _ => none
  | n + 1, x1, x2, x3, M => (if (10 : Int32) ≤ x3 then some ((0 : Int32), M) else (if x2 = x1 then some ((1 : Int32), M) else (if x1 ≤ x2 then zbd (m3_of x2 M) (fun r3 M3 => zgd (Nat.blt r3 10 && true) ((m3_isLeastOfRing_11 n) x1 (cg M3 2 r3 7) (x3 + (1 : Int32)) M3)) else some ((0 : Int32), M))))
theorem m3_isLeastOfRing_11_ok {X : zX} {G : zG} (Hy : zHy X G q3_isLeastOfRing zcC 1 21 (some .boolean)) {r : Int32} {M' : cM} (hE : zEnd X G (some (.inl r)) (zfC M')) : ∀ (n : Nat) (x1 : Int32) (x2 : Int32) (x3 : Int32) (M : cM), m3_isLeastOfRing_11 n x1 x2 x3 M = some (r, M') → zGo (X, q3_isLeastOfRing, G) 0 0 (11, [(0, .inr (.inr (some (3, 0)))), (1, .inl x1), (2, .inl x2), (3, .inl x3)], [], zfC M) := by
  intro n
  induction n with
  | zero => intro x1 x2 x3 M h; cases h
  | succ n ih =>
    intro x1 x2 x3 M h
    unfold m3_isLeastOfRing_11 at h
    refine zblq Hy.1 Hy.2.1 [(.iload 3, 1), (.iconst 10, 2)] (S' := (14, [(0, .inr (.inr (some (3, 0)))), (1, .inl x1), (2, .inl x2), (3, .inl x3)], [.inl (10 : Int32), .inl x3], zfC M)) (b := true) (by decide +kernel) rfl rfl ?_
    refine zic_ge Hy.1 (off := 32) (tgt := 46) (by decide +kernel) (by decide) (fun hb7 => ?_) (fun hb7 => ?_)
    · replace h := zite_t h hb7
      refine zblq Hy.1 Hy.2.1 [(.iconst 0, 1)] (S' := (47, [(0, .inr (.inr (some (3, 0)))), (1, .inl x1), (2, .inl x2), (3, .inl x3)], [.inl (0 : Int32)], zfC M)) (b := true) (by decide +kernel) rfl rfl ?_
      cases h
      exact zret_z Hy.1 Hy.2.2 (by decide) hE (by decide +kernel)
    · replace h := zite_f h hb7
      refine zblq Hy.1 Hy.2.1 [(.iload 2, 1), (.iload 1, 1)] (S' := (19, [(0, .inr (.inr (some (3, 0)))), (1, .inl x1), (2, .inl x2), (3, .inl x3)], [.inl x1, .inl x2], zfC M)) (b := true) (by decide +kernel) rfl rfl ?_
      refine zic_ne Hy.1 (off := 5) (tgt := 24) (by decide +kernel) (by decide) (fun hb6 => ?_) (fun hb6 => ?_)
      · replace h := zite_f h hb6
        refine zblq Hy.1 Hy.2.1 [(.iload 2, 1), (.iload 1, 1)] (S' := (26, [(0, .inr (.inr (some (3, 0)))), (1, .inl x1), (2, .inl x2), (3, .inl x3)], [.inl x1, .inl x2], zfC M)) (b := true) (by decide +kernel) rfl rfl ?_
        refine zic_ge Hy.1 (off := 5) (tgt := 31) (by decide +kernel) (by decide) (fun hb5 => ?_) (fun hb5 => ?_)
        · replace h := zite_t h hb5
          refine zblq Hy.1 Hy.2.1 [(.aload 0, 1), (.iload 2, 1)] (S' := (33, [(0, .inr (.inr (some (3, 0)))), (1, .inl x1), (2, .inl x2), (3, .inl x3)], [.inl x2, .inr (.inr (some (3, 0)))], zfC M)) (b := true) (by decide +kernel) rfl rfl ?_
          obtain ⟨r3, M3, hc3, h⟩ := zbd_inv h
          refine zcallV Hy.1 (as := [.inl x2]) (st := []) (m3_of_met (zOK_G Hy.1) Hy.2.1 hc3) cw3_63 m3_of_in m3_of_se (by decide) (zhlv Hy.2.1 rfl) rfl (zroom Hy.2.2 ⟨by decide, by decide⟩) rfl (by decide +kernel) ⟨Nat.zero_le _, Nat.zero_le _⟩ ?_
          obtain ⟨hg4, h⟩ := zgd_inv h
          refine zblq Hy.1 Hy.2.1 [(.multianewarray 2 7, 3), (.istore 2, 1), (.iinc 3 1, 3), (.ldc 11, 3)] (S' := (11, [(0, .inr (.inr (some (3, 0)))), (1, .inl x1), (2, .inl (cg M3 2 r3 7)), (3, .inl (x3 + (1 : Int32)))], [], zfC M3)) (b := Nat.blt r3 10 && true) (by decide +kernel) rfl hg4 ?_
          refine zGo_keep [0, 1, 2, 3] rfl ?_
          exact ih x1 (cg M3 2 r3 7) (x3 + (1 : Int32)) M3 h
        · replace h := zite_f h hb5
          refine zblq Hy.1 Hy.2.1 [(.iconst 0, 1)] (S' := (30, [(0, .inr (.inr (some (3, 0)))), (1, .inl x1), (2, .inl x2), (3, .inl x3)], [.inl (0 : Int32)], zfC M)) (b := true) (by decide +kernel) rfl rfl ?_
          cases h
          exact zret_z Hy.1 Hy.2.2 (by decide) hE (by decide +kernel)
      · replace h := zite_t h hb6
        refine zblq Hy.1 Hy.2.1 [(.iconst 1, 1)] (S' := (23, [(0, .inr (.inr (some (3, 0)))), (1, .inl x1), (2, .inl x2), (3, .inl x3)], [.inl (1 : Int32)], zfC M)) (b := true) (by decide +kernel) rfl rfl ?_
        cases h
        exact zret_z Hy.1 Hy.2.2 (by decide) hE (by decide +kernel)
def m3_isLeastOfRing (x1 : Int32) (M : cM) : Option (Int32 × cM) := zbd (m3_of x1 M) (fun r1 M1 => zgd (Nat.blt r1 10 && true) (m3_isLeastOfRing_11 zfu x1 (cg M1 2 r1 7) (0 : Int32) M1))
theorem m3_isLeastOfRing_ok {X : zX} {G : zG} (Hy : zHy X G q3_isLeastOfRing zcC 1 21 (some .boolean)) {r : Int32} {M' : cM} (hE : zEnd X G (some (.inl r)) (zfC M')) (x1 : Int32) (M : cM) (h : m3_isLeastOfRing x1 M = some (r, M')) : zGo (X, q3_isLeastOfRing, G) 0 0 (0, [(0, .inr (.inr (some (3, 0)))), (1, .inl x1)], [], zfC M) := by
  unfold m3_isLeastOfRing at h
  refine zblq Hy.1 Hy.2.1 [(.aload 0, 1), (.iload 1, 1)] (S' := (2, [(0, .inr (.inr (some (3, 0)))), (1, .inl x1)], [.inl x1, .inr (.inr (some (3, 0)))], zfC M)) (b := true) (by decide +kernel) rfl rfl ?_
  obtain ⟨r1, M1, hc1, h⟩ := zbd_inv h
  refine zcallV Hy.1 (as := [.inl x1]) (st := []) (m3_of_met (zOK_G Hy.1) Hy.2.1 hc1) cw3_63 m3_of_in m3_of_se (by decide) (zhlv Hy.2.1 rfl) rfl (zroom Hy.2.2 ⟨by decide, by decide⟩) rfl (by decide +kernel) ⟨Nat.zero_le _, Nat.zero_le _⟩ ?_
  obtain ⟨hg2, h⟩ := zgd_inv h
  refine zblq Hy.1 Hy.2.1 [(.multianewarray 2 7, 3), (.istore 2, 1), (.iconst 0, 1), (.istore 3, 1)] (S' := (11, [(0, .inr (.inr (some (3, 0)))), (1, .inl x1), (2, .inl (cg M1 2 r1 7)), (3, .inl (0 : Int32))], [], zfC M1)) (b := Nat.blt r1 10 && true) (by decide +kernel) rfl hg2 ?_
  refine zGo_keep [0, 1, 2, 3] rfl ?_
  exact m3_isLeastOfRing_11_ok Hy hE zfu x1 (cg M1 2 r1 7) (0 : Int32) M1 h
theorem m3_isLeastOfRing_met {l : Launch} {G : zG} (hG : zGok G) (hcn : zgcn G = zcC) {x1 : Int32} {M : cM} {r : Int32} {M' : cM} (h : m3_isLeastOfRing x1 M = some (r, M')) : zMet l G yX3_isLeastOfRing cX3_isLeastOfRing 4 (some .boolean) 1 21 [.inr (.inr (some (3, 0))), .inl x1] (zfC M) (some (.inl r)) (zfC M') :=
  zMet_of hG tbX3_ok rfl (by decide +kernel) (Nat.le_of_ble_eq_true rfl) (fun X _ Z hA hE => m3_isLeastOfRing_ok ⟨Z, hcn, hA⟩ hE x1 M h)
abbrev q3_countRings : ByteArray × Nat × String × zT := (cX3_countRings, 3, RX3, tbX3)
def m3_countRings_23 (k4 : Int32 → Int32 → cM → Option (Int32 × cM)) (x1 : Int32) (x2 : Int32) (M : cM) : Option (Int32 × cM) := k4 x1 (x2 + (1 : Int32)) M
theorem m3_countRings_23_ok {X : zX} {G : zG} (Hy : zHy X G q3_countRings zcC 2 44 (some .int)) {r : Int32} {M' : cM} (hE : zEnd X G (some (.inl r)) (zfC M')) {k4 : Int32 → Int32 → cM → Option (Int32 × cM)} (hk4 : ∀ (x1 : Int32) (x2 : Int32) (M : cM), k4 x1 x2 M = some (r, M') → zGo (X, q3_countRings, G) 0 0 (4, [(0, .inr (.inr (some (3, 0)))), (1, .inl x1), (2, .inl x2)], [], zfC M)) (x1 : Int32) (x2 : Int32) (M : cM) (h : m3_countRings_23 k4 x1 x2 M = some (r, M')) : zGo (X, q3_countRings, G) 0 0 (23, [(0, .inr (.inr (some (3, 0)))), (1, .inl x1), (2, .inl x2)], [], zfC M) := by
  unfold m3_countRings_23 at h
  refine zblq Hy.1 Hy.2.1 [(.iinc 2 1, 3), (.ldc 4, 3)] (S' := (4, [(0, .inr (.inr (some (3, 0)))), (1, .inl x1), (2, .inl (x2 + (1 : Int32)))], [], zfC M)) (b := true) (by decide +kernel) rfl rfl ?_
  refine zGo_keep [0, 1, 2] rfl ?_
  exact hk4 x1 (x2 + (1 : Int32)) M h
def m3_countRings_4 : Nat → Int32 → Int32 → cM → Option (Int32 × cM)
  | 0, _, _, _ => none
  | n + 1, x1, x2, M => (if (cg M 3 0 4) ≤ x2 then some (x1, M) else zbd (m3_isLeastOfRing x2 M) (fun r1 M1 => (if r1 = 0 then m3_countRings_23 (m3_countRings_4 n) x1 x2 M1 else m3_countRings_23 (m3_countRings_4 n) (x1 + (1 : Int32)) x2 M1)))
theorem m3_countRings_4_ok {X : zX} {G : zG} (Hy : zHy X G q3_countRings zcC 2 44 (some .int)) {r : Int32} {M' : cM} (hE : zEnd X G (some (.inl r)) (zfC M')) : ∀ (n : Nat) (x1 : Int32) (x2 : Int32) (M : cM), m3_countRings_4 n x1 x2 M = some (r, M') → zGo (X, q3_countRings, G) 0 0 (4, [(0, .inr (.inr (some (3, 0)))), (1, .inl x1), (2, .inl x2)], [], zfC M) := by
  intro n
  induction n with
  | zero => intro x1 x2 M h; cases h
  | succ n ih =>
    intro x1 x2 M h
    unfold m3_countRings_4 at h
    refine zblq Hy.1 Hy.2.1 [(.iload 2, 1), (.aload 0, 1), (.multianewarray 3 4, 3)] (S' := (9, [(0, .inr (.inr (some (3, 0)))), (1, .inl x1), (2, .inl x2)], [.inl (cg M 3 0 4), .inl x2], zfC M)) (b := true) (by decide +kernel) rfl rfl ?_
    refine zic_ge Hy.1 (off := 20) (tgt := 29) (by decide +kernel) (by decide) (fun hb3 => ?_) (fun hb3 => ?_)
    · replace h := zite_t h hb3
      refine zblq Hy.1 Hy.2.1 [(.iload 1, 1)] (S' := (30, [(0, .inr (.inr (some (3, 0)))), (1, .inl x1), (2, .inl x2)], [.inl x1], zfC M)) (b := true) (by decide +kernel) rfl rfl ?_
      cases h
      exact zret_i Hy.1 Hy.2.2 hE (by decide +kernel)
    · replace h := zite_f h hb3
      refine zblq Hy.1 Hy.2.1 [(.aload 0, 1), (.iload 2, 1)] (S' := (14, [(0, .inr (.inr (some (3, 0)))), (1, .inl x1), (2, .inl x2)], [.inl x2, .inr (.inr (some (3, 0)))], zfC M)) (b := true) (by decide +kernel) rfl rfl ?_
      obtain ⟨r1, M1, hc1, h⟩ := zbd_inv h
      refine zcallV Hy.1 (as := [.inl x2]) (st := []) (m3_isLeastOfRing_met (zOK_G Hy.1) Hy.2.1 hc1) cw3_97 m3_isLeastOfRing_in m3_isLeastOfRing_se (by decide) (zhlv Hy.2.1 rfl) rfl (zroom Hy.2.2 ⟨by decide, by decide⟩) rfl (by decide +kernel) ⟨Nat.zero_le _, Nat.zero_le _⟩ ?_
      refine zif_eq Hy.1 (off := 6) (tgt := 23) (by decide +kernel) (by decide) (fun hb2 => ?_) (fun hb2 => ?_)
      · replace h := zite_t h hb2
        refine zGo_keep [0, 1, 2] rfl ?_
        exact m3_countRings_23_ok Hy hE ih x1 x2 M1 h
      · replace h := zite_f h hb2
        refine zblq Hy.1 Hy.2.1 [(.iinc 1 1, 3)] (S' := (23, [(0, .inr (.inr (some (3, 0)))), (1, .inl (x1 + (1 : Int32))), (2, .inl x2)], [], zfC M1)) (b := true) (by decide +kernel) rfl rfl ?_
        refine zGo_keep [0, 1, 2] rfl ?_
        exact m3_countRings_23_ok Hy hE ih (x1 + (1 : Int32)) x2 M1 h
def m3_countRings  (M : cM) : Option (Int32 × cM) := m3_countRings_4 zfu (0 : Int32) (0 : Int32) M
theorem m3_countRings_ok {X : zX} {G : zG} (Hy : zHy X G q3_countRings zcC 2 44 (some .int)) {r : Int32} {M' : cM} (hE : zEnd X G (some (.inl r)) (zfC M'))  (M : cM) (h : m3_countRings M = some (r, M')) : zGo (X, q3_countRings, G) 0 0 (0, [(0, .inr (.inr (some (3, 0))))], [], zfC M) := by
  unfold m3_countRings at h
  refine zblq Hy.1 Hy.2.1 [(.iconst 0, 1), (.istore 1, 1), (.iconst 0, 1), (.istore 2, 1)] (S' := (4, [(0, .inr (.inr (some (3, 0)))), (1, .inl (0 : Int32)), (2, .inl (0 : Int32))], [], zfC M)) (b := true) (by decide +kernel) rfl rfl ?_
  refine zGo_keep [0, 1, 2] rfl ?_
  exact m3_countRings_4_ok Hy hE zfu (0 : Int32) (0 : Int32) M h
theorem m3_countRings_met {l : Launch} {G : zG} (hG : zGok G) (hcn : zgcn G = zcC)  {M : cM} {r : Int32} {M' : cM} (h : m3_countRings M = some (r, M')) : zMet l G yX3_countRings cX3_countRings 3 (some .int) 2 44 [.inr (.inr (some (3, 0)))] (zfC M) (some (.inl r)) (zfC M') :=
  zMet_of hG tbX3_ok rfl (by decide +kernel) (Nat.le_of_ble_eq_true rfl) (fun X _ Z hA hE => m3_countRings_ok ⟨Z, hcn, hA⟩ hE M h)
abbrev q11_rings : ByteArray × Nat × String × zT := (cX11_rings, 1, RX11, tbX11)
def m11_rings  (M : cM) : Option (Int32 × cM) := zbd (m3_countRings M) (fun r1 M1 => some (r1, M1))
theorem m11_rings_ok {X : zX} {G : zG} (Hy : zHy X G q11_rings zcC 3 66 (some .int)) {r : Int32} {M' : cM} (hE : zEnd X G (some (.inl r)) (zfC M'))  (M : cM) (h : m11_rings M = some (r, M')) : zGo (X, q11_rings, G) 0 0 (0, [(0, .inr (.inr (some (11, 0))))], [], zfC M) := by
  unfold m11_rings at h
  refine zblq Hy.1 Hy.2.1 [(.aload 0, 1), (.getfield 1100, 3)] (S' := (4, [(0, .inr (.inr (some (11, 0))))], [.inr (.inr (some (3, 0)))], zfC M)) (b := true) (by decide +kernel) rfl rfl ?_
  obtain ⟨r1, M1, hc1, h⟩ := zbd_inv h
  refine zcallV Hy.1 (as := []) (st := []) (m3_countRings_met (zOK_G Hy.1) Hy.2.1 hc1) cw11_144 m3_countRings_in m3_countRings_se (by decide) (zhlv Hy.2.1 rfl) rfl (zroom Hy.2.2 ⟨by decide, by decide⟩) rfl (by decide +kernel) ⟨Nat.zero_le _, Nat.zero_le _⟩ ?_
  cases h
  exact zret_i Hy.1 Hy.2.2 hE (by decide +kernel)
theorem m11_rings_met {l : Launch} {G : zG} (hG : zGok G) (hcn : zgcn G = zcC)  {M : cM} {r : Int32} {M' : cM} (h : m11_rings M = some (r, M')) : zMet l G yX11_rings cX11_rings 1 (some .int) 3 66 [.inr (.inr (some (11, 0)))] (zfC M) (some (.inl r)) (zfC M') :=
  zMet_of hG tbX11_ok rfl (by decide +kernel) (Nat.le_of_ble_eq_true rfl) (fun X _ Z hA hE => m11_rings_ok ⟨Z, hcn, hA⟩ hE M h)
abbrev q8_isFull : ByteArray × Nat × String × zT := (cX8_isFull, 1, RX8, tbX8)
def m8_isFull (i0 : Nat) (M : cM) : Option (Int32 × cM) := zgd (Nat.blt i0 10 && true) ((if (cg M 8 i0 2) < (4 : Int32) then some ((0 : Int32), M) else some ((1 : Int32), M)))
theorem m8_isFull_ok {X : zX} {G : zG} (Hy : zHy X G q8_isFull zcC 0 0 (some .boolean)) {r : Int32} {M' : cM} (hE : zEnd X G (some (.inl r)) (zfC M')) (i0 : Nat) (M : cM) (h : m8_isFull i0 M = some (r, M')) : zGo (X, q8_isFull, G) 0 0 (0, [(0, .inr (.inr (some (8, i0))))], [], zfC M) := by
  unfold m8_isFull at h
  obtain ⟨hg1, h⟩ := zgd_inv h
  refine zblq Hy.1 Hy.2.1 [(.aload 0, 1), (.multianewarray 8 2, 3), (.iconst 4, 1)] (S' := (5, [(0, .inr (.inr (some (8, i0))))], [.inl (4 : Int32), .inl (cg M 8 i0 2)], zfC M)) (b := Nat.blt i0 10 && true) (by decide +kernel) rfl hg1 ?_
  refine zic_lt Hy.1 (off := 7) (tgt := 12) (by decide +kernel) (by decide) (fun hb2 => ?_) (fun hb2 => ?_)
  · replace h := zite_t h hb2
    refine zblq Hy.1 Hy.2.1 [(.iconst 0, 1)] (S' := (13, [(0, .inr (.inr (some (8, i0))))], [.inl (0 : Int32)], zfC M)) (b := true) (by decide +kernel) rfl rfl ?_
    cases h
    exact zret_z Hy.1 Hy.2.2 (by decide) hE (by decide +kernel)
  · replace h := zite_f h hb2
    refine zblq Hy.1 Hy.2.1 [(.iconst 1, 1), (.ldc 13, 3)] (S' := (13, [(0, .inr (.inr (some (8, i0))))], [.inl (1 : Int32)], zfC M)) (b := true) (by decide +kernel) rfl rfl ?_
    cases h
    exact zret_z Hy.1 Hy.2.2 (by decide) hE (by decide +kernel)
theorem m8_isFull_met {l : Launch} {G : zG} (hG : zGok G) (hcn : zgcn G = zcC) {i0 : Nat} {M : cM} {r : Int32} {M' : cM} (h : m8_isFull i0 M = some (r, M')) : zMet l G yX8_isFull cX8_isFull 1 (some .boolean) 0 0 [.inr (.inr (some (8, i0)))] (zfC M) (some (.inl r)) (zfC M') :=
  zMet_of hG tbX8_ok rfl (by decide +kernel) (Nat.le_of_ble_eq_true rfl) (fun X _ Z hA hE => m8_isFull_ok ⟨Z, hcn, hA⟩ hE i0 M h)
abbrev q8_addWord : ByteArray × Nat × String × zT := (cX8_addWord, 2, RX8, tbX8)
def m8_addWord (i0 : Nat) (x1 : Int32) (M : cM) : Option cM := zgd (Nat.blt i0 10) (zbd (m8_isFull i0 M) (fun r1 M1 => (if r1 = 0 then zgd (Nat.blt i0 10 && (Nat.blt i0 10 && ((Nat.blt i0 10 && zin (cg M1 8 i0 2) 4) && (Nat.blt i0 10 && ((Nat.blt i0 10 && true) && true))))) (some (cs (cs M1 900 i0 (nx (cg M1 8 i0 2)) x1) 8 i0 2 ((cg (cs M1 900 i0 (nx (cg M1 8 i0 2)) x1) 8 i0 2) + (1 : Int32)))) else some M1)))
theorem m8_addWord_ok {X : zX} {G : zG} (Hy : zHy X G q8_addWord zcC 1 20 (none)) {M' : cM} (hE : zEnd X G (none) (zfC M')) (i0 : Nat) (x1 : Int32) (M : cM) (h : m8_addWord i0 x1 M = some M') : zGo (X, q8_addWord, G) 0 0 (0, [(0, .inr (.inr (some (8, i0)))), (1, .inl x1)], [], zfC M) := by
  unfold m8_addWord at h
  refine zblq Hy.1 Hy.2.1 [(.aload 0, 1)] (S' := (1, [(0, .inr (.inr (some (8, i0)))), (1, .inl x1)], [.inr (.inr (some (8, i0)))], zfC M)) (b := true) (by decide +kernel) rfl rfl ?_
  obtain ⟨hg2, h⟩ := zgd_inv h
  obtain ⟨r1, M1, hc1, h⟩ := zbd_inv h
  refine zcallV Hy.1 (as := []) (st := []) (m8_isFull_met (zOK_G Hy.1) Hy.2.1 hc1) cw8_24 m8_isFull_in m8_isFull_se (by decide) (zhlv Hy.2.1 hg2) rfl (zroom Hy.2.2 ⟨by decide, by decide⟩) rfl (by decide +kernel) ⟨Nat.zero_le _, Nat.zero_le _⟩ ?_
  refine zif_eq Hy.1 (off := 4) (tgt := 8) (by decide +kernel) (by decide) (fun hb4 => ?_) (fun hb4 => ?_)
  · replace h := zite_t h hb4
    obtain ⟨hg3, h⟩ := zgd_inv h
    refine zblq Hy.1 Hy.2.1 [(.aload 0, 1), (.getfield 800, 3), (.aload 0, 1), (.multianewarray 8 2, 3), (.iload 1, 1), (.iastore, 1), (.aload 0, 1), (.dup, 1), (.multianewarray 8 2, 3), (.iconst 1, 1), (.iadd, 1), (.invokeinterface 8 2, 3)] (S' := (28, [(0, .inr (.inr (some (8, i0)))), (1, .inl x1)], [], zfC (cs (cs M1 900 i0 (nx (cg M1 8 i0 2)) x1) 8 i0 2 ((cg (cs M1 900 i0 (nx (cg M1 8 i0 2)) x1) 8 i0 2) + (1 : Int32))))) (b := Nat.blt i0 10 && (Nat.blt i0 10 && ((Nat.blt i0 10 && zin (cg M1 8 i0 2) 4) && (Nat.blt i0 10 && ((Nat.blt i0 10 && true) && true))))) (by decide +kernel) rfl hg3 ?_
    cases h
    exact zret_v Hy.1 Hy.2.2 hE (by decide +kernel)
  · replace h := zite_f h hb4
    cases h
    exact zret_v Hy.1 Hy.2.2 hE (by decide +kernel)
theorem m8_addWord_met {l : Launch} {G : zG} (hG : zGok G) (hcn : zgcn G = zcC) {i0 : Nat} {x1 : Int32} {M : cM} {M' : cM} (h : m8_addWord i0 x1 M = some M') : zMet l G yX8_addWord cX8_addWord 2 (none) 1 20 [.inr (.inr (some (8, i0))), .inl x1] (zfC M) (none) (zfC M') :=
  zMet_of hG tbX8_ok rfl (by decide +kernel) (Nat.le_of_ble_eq_true rfl) (fun X _ Z hA hE => m8_addWord_ok ⟨Z, hcn, hA⟩ hE i0 x1 M h)
abbrev q11_say : ByteArray × Nat × String × zT := (cX11_say, 4, RX11, tbX11)
def m11_say (x1 : Int32) (x2 : Int32) (M : cM) : Option (Int32 × cM) := zbd (m3_knows x1 M) (fun r1 M1 => (if r1 = 0 then some ((-2 : Int32), M1) else zbd (m11_outside x2 (0 : Int32) (999 : Int32) M1) (fun r2 M2 => (if r2 = 0 then zbd (m3_of x1 M2) (fun r3 M3 => (if x1 = 0 then some ((-4 : Int32), M3) else zgd (Nat.blt r3 10) (zbd (m2_isDead r3 M3) (fun r4 M4 => (if r4 = 0 then zgd (Nat.blt r3 10 && true) (zgd (Nat.blt r3 10) (zbd (m8_isFull r3 M4) (fun r7 M7 => (if r7 = 0 then zgd (Nat.blt r3 10 && true) (zgd (Nat.blt r3 10) (zbv (m8_addWord r3 x2 M7) (fun M10 => zgd (Nat.blt r3 10 && (Nat.blt r3 10 && true)) (some (cg M10 8 r3 2, M10))))) else some ((-5 : Int32), M7))))) else some ((-4 : Int32), M4)))))) else some ((-3 : Int32), M2)))))
theorem m11_say_ok {X : zX} {G : zG} (Hy : zHy X G q11_say zcC 2 41 (some .int)) {r : Int32} {M' : cM} (hE : zEnd X G (some (.inl r)) (zfC M')) (x1 : Int32) (x2 : Int32) (M : cM) (h : m11_say x1 x2 M = some (r, M')) : zGo (X, q11_say, G) 0 0 (0, [(0, .inr (.inr (some (11, 0)))), (1, .inl x1), (2, .inl x2)], [], zfC M) := by
  unfold m11_say at h
  refine zblq Hy.1 Hy.2.1 [(.aload 0, 1), (.getfield 1100, 3), (.iload 1, 1)] (S' := (5, [(0, .inr (.inr (some (11, 0)))), (1, .inl x1), (2, .inl x2)], [.inl x1, .inr (.inr (some (3, 0)))], zfC M)) (b := true) (by decide +kernel) rfl rfl ?_
  obtain ⟨r1, M1, hc1, h⟩ := zbd_inv h
  refine zcallV Hy.1 (as := [.inl x1]) (st := []) (m3_knows_met (zOK_G Hy.1) Hy.2.1 hc1) cw11_74 m3_knows_in m3_knows_se (by decide) (zhlv Hy.2.1 rfl) rfl (zroom Hy.2.2 ⟨by decide, by decide⟩) rfl (by decide +kernel) ⟨Nat.zero_le _, Nat.zero_le _⟩ ?_
  refine zif_ne Hy.1 (off := 6) (tgt := 14) (by decide +kernel) (by decide) (fun hb17 => ?_) (fun hb17 => ?_)
  · replace h := zite_f h hb17
    refine zblq Hy.1 Hy.2.1 [(.iload 2, 1), (.iconst 0, 1), (.iconst 999, 3)] (S' := (19, [(0, .inr (.inr (some (11, 0)))), (1, .inl x1), (2, .inl x2)], [.inl (999 : Int32), .inl (0 : Int32), .inl x2], zfC M1)) (b := true) (by decide +kernel) rfl rfl ?_
    obtain ⟨r2, M2, hc2, h⟩ := zbd_inv h
    refine zcallS Hy.1 (as := [.inl x2, .inl (0 : Int32), .inl (999 : Int32)]) (st := []) (m11_outside_met (zOK_G Hy.1) Hy.2.1 hc2) cw11_66 m11_outside_in rfl (zroom Hy.2.2 ⟨by decide, by decide⟩) rfl (by decide +kernel) ⟨Nat.zero_le _, Nat.zero_le _⟩ ?_
    refine zif_eq Hy.1 (off := 6) (tgt := 28) (by decide +kernel) (by decide) (fun hb16 => ?_) (fun hb16 => ?_)
    · replace h := zite_t h hb16
      refine zblq Hy.1 Hy.2.1 [(.aload 0, 1), (.getfield 1100, 3), (.iload 1, 1)] (S' := (33, [(0, .inr (.inr (some (11, 0)))), (1, .inl x1), (2, .inl x2)], [.inl x1, .inr (.inr (some (3, 0)))], zfC M2)) (b := true) (by decide +kernel) rfl rfl ?_
      obtain ⟨r3, M3, hc3, h⟩ := zbd_inv h
      refine zcallV Hy.1 (as := [.inl x1]) (st := []) (m3_of_met (zOK_G Hy.1) Hy.2.1 hc3) cw11_78 m3_of_in m3_of_se (by decide) (zhlv Hy.2.1 rfl) rfl (zroom Hy.2.2 ⟨by decide, by decide⟩) rfl (by decide +kernel) ⟨Nat.zero_le _, Nat.zero_le _⟩ ?_
      refine zblq Hy.1 Hy.2.1 [(.astore 3, 1), (.iload 1, 1)] (S' := (38, [(0, .inr (.inr (some (11, 0)))), (1, .inl x1), (2, .inl x2), (3, .inr (.inr (some (2, r3))))], [.inl x1], zfC M3)) (b := true) (by decide +kernel) rfl rfl ?_
      refine zif_eq Hy.1 (off := 10) (tgt := 48) (by decide +kernel) (by decide) (fun hb15 => ?_) (fun hb15 => ?_)
      · replace h := zite_t h hb15
        refine zblq Hy.1 Hy.2.1 [(.iconst (-4), 2)] (S' := (50, [(0, .inr (.inr (some (11, 0)))), (1, .inl x1), (2, .inl x2), (3, .inr (.inr (some (2, r3))))], [.inl (-4 : Int32)], zfC M3)) (b := true) (by decide +kernel) rfl rfl ?_
        cases h
        exact zret_i Hy.1 Hy.2.2 hE (by decide +kernel)
      · replace h := zite_f h hb15
        refine zblq Hy.1 Hy.2.1 [(.aload 3, 1)] (S' := (42, [(0, .inr (.inr (some (11, 0)))), (1, .inl x1), (2, .inl x2), (3, .inr (.inr (some (2, r3))))], [.inr (.inr (some (2, r3)))], zfC M3)) (b := true) (by decide +kernel) rfl rfl ?_
        obtain ⟨hg5, h⟩ := zgd_inv h
        obtain ⟨r4, M4, hc4, h⟩ := zbd_inv h
        refine zcallV Hy.1 (as := []) (st := []) (m2_isDead_met (zOK_G Hy.1) Hy.2.1 hc4) cw11_147 m2_isDead_in m2_isDead_se (by decide) (zhlv Hy.2.1 hg5) rfl (zroom Hy.2.2 ⟨by decide, by decide⟩) rfl (by decide +kernel) ⟨Nat.zero_le _, Nat.zero_le _⟩ ?_
        refine zif_eq Hy.1 (off := 6) (tgt := 51) (by decide +kernel) (by decide) (fun hb14 => ?_) (fun hb14 => ?_)
        · replace h := zite_t h hb14
          obtain ⟨hg6, h⟩ := zgd_inv h
          refine zblq Hy.1 Hy.2.1 [(.aload 3, 1), (.getfield 215, 3)] (S' := (55, [(0, .inr (.inr (some (11, 0)))), (1, .inl x1), (2, .inl x2), (3, .inr (.inr (some (2, r3))))], [.inr (.inr (some (8, r3)))], zfC M4)) (b := Nat.blt r3 10 && true) (by decide +kernel) rfl hg6 ?_
          obtain ⟨hg8, h⟩ := zgd_inv h
          obtain ⟨r7, M7, hc7, h⟩ := zbd_inv h
          refine zcallV Hy.1 (as := []) (st := []) (m8_isFull_met (zOK_G Hy.1) Hy.2.1 hc7) cw11_150 m8_isFull_in m8_isFull_se (by decide) (zhlv Hy.2.1 hg8) rfl (zroom Hy.2.2 ⟨by decide, by decide⟩) rfl (by decide +kernel) ⟨Nat.zero_le _, Nat.zero_le _⟩ ?_
          refine zif_eq Hy.1 (off := 6) (tgt := 64) (by decide +kernel) (by decide) (fun hb13 => ?_) (fun hb13 => ?_)
          · replace h := zite_t h hb13
            obtain ⟨hg9, h⟩ := zgd_inv h
            refine zblq Hy.1 Hy.2.1 [(.aload 3, 1), (.getfield 215, 3), (.iload 2, 1)] (S' := (69, [(0, .inr (.inr (some (11, 0)))), (1, .inl x1), (2, .inl x2), (3, .inr (.inr (some (2, r3))))], [.inl x2, .inr (.inr (some (8, r3)))], zfC M7)) (b := Nat.blt r3 10 && true) (by decide +kernel) rfl hg9 ?_
            obtain ⟨hg11, h⟩ := zgd_inv h
            obtain ⟨M10, hc10, h⟩ := zbv_inv h
            refine zcallV Hy.1 (as := [.inl x2]) (st := []) (m8_addWord_met (zOK_G Hy.1) Hy.2.1 hc10) cw11_153 m8_addWord_in m8_addWord_se (by decide) (zhlv Hy.2.1 hg11) rfl (zroom Hy.2.2 ⟨by decide, by decide⟩) rfl (by decide +kernel) ⟨Nat.zero_le _, Nat.zero_le _⟩ ?_
            obtain ⟨hg12, h⟩ := zgd_inv h
            refine zblq Hy.1 Hy.2.1 [(.aload 3, 1), (.getfield 215, 3), (.multianewarray 8 2, 3)] (S' := (79, [(0, .inr (.inr (some (11, 0)))), (1, .inl x1), (2, .inl x2), (3, .inr (.inr (some (2, r3))))], [.inl (cg M10 8 r3 2)], zfC M10)) (b := Nat.blt r3 10 && (Nat.blt r3 10 && true)) (by decide +kernel) rfl hg12 ?_
            cases h
            exact zret_i Hy.1 Hy.2.2 hE (by decide +kernel)
          · replace h := zite_f h hb13
            refine zblq Hy.1 Hy.2.1 [(.iconst (-5), 2)] (S' := (63, [(0, .inr (.inr (some (11, 0)))), (1, .inl x1), (2, .inl x2), (3, .inr (.inr (some (2, r3))))], [.inl (-5 : Int32)], zfC M7)) (b := true) (by decide +kernel) rfl rfl ?_
            cases h
            exact zret_i Hy.1 Hy.2.2 hE (by decide +kernel)
        · replace h := zite_f h hb14
          refine zblq Hy.1 Hy.2.1 [(.iconst (-4), 2)] (S' := (50, [(0, .inr (.inr (some (11, 0)))), (1, .inl x1), (2, .inl x2), (3, .inr (.inr (some (2, r3))))], [.inl (-4 : Int32)], zfC M4)) (b := true) (by decide +kernel) rfl rfl ?_
          cases h
          exact zret_i Hy.1 Hy.2.2 hE (by decide +kernel)
    · replace h := zite_f h hb16
      refine zblq Hy.1 Hy.2.1 [(.iconst (-3), 2)] (S' := (27, [(0, .inr (.inr (some (11, 0)))), (1, .inl x1), (2, .inl x2)], [.inl (-3 : Int32)], zfC M2)) (b := true) (by decide +kernel) rfl rfl ?_
      cases h
      exact zret_i Hy.1 Hy.2.2 hE (by decide +kernel)
  · replace h := zite_t h hb17
    refine zblq Hy.1 Hy.2.1 [(.iconst (-2), 2)] (S' := (13, [(0, .inr (.inr (some (11, 0)))), (1, .inl x1), (2, .inl x2)], [.inl (-2 : Int32)], zfC M1)) (b := true) (by decide +kernel) rfl rfl ?_
    cases h
    exact zret_i Hy.1 Hy.2.2 hE (by decide +kernel)
theorem m11_say_met {l : Launch} {G : zG} (hG : zGok G) (hcn : zgcn G = zcC) {x1 : Int32} {x2 : Int32} {M : cM} {r : Int32} {M' : cM} (h : m11_say x1 x2 M = some (r, M')) : zMet l G yX11_say cX11_say 4 (some .int) 2 41 [.inr (.inr (some (11, 0))), .inl x1, .inl x2] (zfC M) (some (.inl r)) (zfC M') :=
  zMet_of hG tbX11_ok rfl (by decide +kernel) (Nat.le_of_ble_eq_true rfl) (fun X _ Z hA hE => m11_say_ok ⟨Z, hcn, hA⟩ hE x1 x2 M h)
abbrev qJ9_min : ByteArray × Nat × String × zT := (cJ9_min_7cf53, 2, RJ9, tbJ9)
def mJ9_min (x0 : Int32) (x1 : Int32) (M : cM) : Option (Int32 × cM) := (if x1 < x0 then some (x1, M) else some (x0, M))
theorem mJ9_min_ok {X : zX} {G : zG} (Hy : zHy X G qJ9_min zcC 0 0 (some .int)) {r : Int32} {M' : cM} (hE : zEnd X G (some (.inl r)) (zfC M')) (x0 : Int32) (x1 : Int32) (M : cM) (h : mJ9_min x0 x1 M = some (r, M')) : zGo (X, qJ9_min, G) 0 0 (0, [(0, .inl x0), (1, .inl x1)], [], zfC M) := by
  unfold mJ9_min at h
  refine zblq Hy.1 Hy.2.1 [(.iload 0, 1), (.iload 1, 1)] (S' := (2, [(0, .inl x0), (1, .inl x1)], [.inl x1, .inl x0], zfC M)) (b := true) (by decide +kernel) rfl rfl ?_
  refine zic_gt Hy.1 (off := 7) (tgt := 9) (by decide +kernel) (by decide) (fun hb1 => ?_) (fun hb1 => ?_)
  · replace h := zite_t h hb1
    refine zblq Hy.1 Hy.2.1 [(.iload 1, 1)] (S' := (10, [(0, .inl x0), (1, .inl x1)], [.inl x1], zfC M)) (b := true) (by decide +kernel) rfl rfl ?_
    cases h
    exact zret_i Hy.1 Hy.2.2 hE (by decide +kernel)
  · replace h := zite_f h hb1
    refine zblq Hy.1 Hy.2.1 [(.iload 0, 1), (.ldc 10, 3)] (S' := (10, [(0, .inl x0), (1, .inl x1)], [.inl x0], zfC M)) (b := true) (by decide +kernel) rfl rfl ?_
    cases h
    exact zret_i Hy.1 Hy.2.2 hE (by decide +kernel)
theorem mJ9_min_met {l : Launch} {G : zG} (hG : zGok G) (hcn : zgcn G = zcC) {x0 : Int32} {x1 : Int32} {M : cM} {r : Int32} {M' : cM} (h : mJ9_min x0 x1 M = some (r, M')) : zMet l G yJ9_min_7cf53 cJ9_min_7cf53 2 (some .int) 0 0 [.inl x0, .inl x1] (zfC M) (some (.inl r)) (zfC M') :=
  zMet_ofF hG tbJ9_ok rfl (by decide +kernel) (Nat.le_of_ble_eq_true rfl) (fun X _ Z hA hE => mJ9_min_ok ⟨Z, hcn, hA⟩ hE x0 x1 M h)
abbrev q2_spend : ByteArray × Nat × String × zT := (cX2_spend, 2, RX2, tbX2)
def m2_spend (i0 : Nat) (x1 : Int32) (M : cM) : Option cM := zgd (Nat.blt i0 10 && (Nat.blt i0 10 && true)) (zbd (mJ9_min (cg M 2 i0 2) x1 M) (fun r2 M2 => zgd ((Nat.blt i0 10 && true) && true) (some (cs M2 2 i0 2 ((cg M 2 i0 2) - r2)))))
theorem m2_spend_ok {X : zX} {G : zG} (Hy : zHy X G q2_spend zcC 1 21 (none)) {M' : cM} (hE : zEnd X G (none) (zfC M')) (i0 : Nat) (x1 : Int32) (M : cM) (h : m2_spend i0 x1 M = some M') : zGo (X, q2_spend, G) 0 0 (0, [(0, .inr (.inr (some (2, i0)))), (1, .inl x1)], [], zfC M) := by
  unfold m2_spend at h
  obtain ⟨hg1, h⟩ := zgd_inv h
  refine zblq Hy.1 Hy.2.1 [(.aload 0, 1), (.dup, 1), (.multianewarray 2 2, 3), (.aload 0, 1), (.multianewarray 2 2, 3), (.iload 1, 1)] (S' := (10, [(0, .inr (.inr (some (2, i0)))), (1, .inl x1)], [.inl x1, .inl (cg M 2 i0 2), .inl (cg M 2 i0 2), .inr (.inr (some (2, i0)))], zfC M)) (b := Nat.blt i0 10 && (Nat.blt i0 10 && true)) (by decide +kernel) rfl hg1 ?_
  obtain ⟨r2, M2, hc2, h⟩ := zbd_inv h
  refine zcallS Hy.1 (as := [.inl (cg M 2 i0 2), .inl x1]) (st := [.inl (cg M 2 i0 2), .inr (.inr (some (2, i0)))]) (mJ9_min_met (zOK_G Hy.1) Hy.2.1 hc2) cw2_65 mJ9_min_in rfl (zroom Hy.2.2 ⟨by decide, by decide⟩) rfl (by decide +kernel) ⟨Nat.zero_le _, Nat.zero_le _⟩ ?_
  obtain ⟨hg3, h⟩ := zgd_inv h
  refine zblq Hy.1 Hy.2.1 [(.isub, 1), (.invokeinterface 2 2, 3)] (S' := (17, [(0, .inr (.inr (some (2, i0)))), (1, .inl x1)], [], zfC (cs M2 2 i0 2 ((cg M 2 i0 2) - r2)))) (b := (Nat.blt i0 10 && true) && true) (by decide +kernel) rfl hg3 ?_
  cases h
  exact zret_v Hy.1 Hy.2.2 hE (by decide +kernel)
theorem m2_spend_met {l : Launch} {G : zG} (hG : zGok G) (hcn : zgcn G = zcC) {i0 : Nat} {x1 : Int32} {M : cM} {M' : cM} (h : m2_spend i0 x1 M = some M') : zMet l G yX2_spend cX2_spend 2 (none) 1 21 [.inr (.inr (some (2, i0))), .inl x1] (zfC M) (none) (zfC M') :=
  zMet_of hG tbX2_ok rfl (by decide +kernel) (Nat.le_of_ble_eq_true rfl) (fun X _ Z hA hE => m2_spend_ok ⟨Z, hcn, hA⟩ hE i0 x1 M h)
abbrev q0_spendRest : ByteArray × Nat × String × zT := (cX0_spendRest, 4, RX0, tbX0)
def m0_spendRest_112 (k12 : Int32 → cM → Option cM) (x1 : Int32) (M : cM) : Option cM := k12 (x1 + (1 : Int32)) M
theorem m0_spendRest_112_ok {X : zX} {G : zG} (Hy : zHy X G q0_spendRest zcC 2 43 (none)) {M' : cM} (hE : zEnd X G (none) (zfC M')) {k12 : Int32 → cM → Option cM} (hk12 : ∀ (x1 : Int32) (M : cM), k12 x1 M = some M' → zGo (X, q0_spendRest, G) 0 0 (12, [(0, .inr (.inr (some (0, 0)))), (1, .inl x1)], [], zfC M)) (x1 : Int32) (M : cM) (h : m0_spendRest_112 k12 x1 M = some M') : zGo (X, q0_spendRest, G) 0 0 (112, [(0, .inr (.inr (some (0, 0)))), (1, .inl x1)], [], zfC M) := by
  unfold m0_spendRest_112 at h
  refine zblq Hy.1 Hy.2.1 [(.iinc 1 1, 3), (.ldc 12, 3)] (S' := (12, [(0, .inr (.inr (some (0, 0)))), (1, .inl (x1 + (1 : Int32)))], [], zfC M)) (b := true) (by decide +kernel) rfl rfl ?_
  refine zGo_keep [0, 1] rfl ?_
  exact hk12 (x1 + (1 : Int32)) M h
def m0_spendRest_68 (k12 : Int32 → cM → Option cM) (x1 : Int32) (i2 : Nat) (x3 : Int32) (j0 : Nat) (t2 : Int32) (M : cM) : Option cM := zbd (m3_setting t2 M) (fun r6 M6 => zgd (Nat.blt j0 10) (zbv (m2_spend j0 r6 M6) (fun M7 => zgd (Nat.blt i2 10) (zbd (m2_isDead i2 M7) (fun r9 M9 => (if r9 = 0 then (if x3 = 0 then m0_spendRest_112 k12 x1 (cs M9 0 0 7 ((cg M9 0 0 7) ||| (zshl (1 : Int32) x1))) else m0_spendRest_112 k12 x1 (cs (cs M9 0 0 7 ((cg M9 0 0 7) ||| (zshl (1 : Int32) x1))) 0 0 8 ((cg (cs M9 0 0 7 ((cg M9 0 0 7) ||| (zshl (1 : Int32) x1))) 0 0 8) ||| (zshl (1 : Int32) x1)))) else m0_spendRest_112 k12 x1 M9))))))
theorem m0_spendRest_68_ok {X : zX} {G : zG} (Hy : zHy X G q0_spendRest zcC 2 43 (none)) {M' : cM} (hE : zEnd X G (none) (zfC M')) {k12 : Int32 → cM → Option cM} (hk12 : ∀ (x1 : Int32) (M : cM), k12 x1 M = some M' → zGo (X, q0_spendRest, G) 0 0 (12, [(0, .inr (.inr (some (0, 0)))), (1, .inl x1)], [], zfC M)) (x1 : Int32) (i2 : Nat) (x3 : Int32) (j0 : Nat) (t2 : Int32) (M : cM) (h : m0_spendRest_68 k12 x1 i2 x3 j0 t2 M = some M') : zGo (X, q0_spendRest, G) 0 0 (68, [(0, .inr (.inr (some (0, 0)))), (1, .inl x1), (2, .inr (.inr (some (2, i2)))), (3, .inl x3)], [.inl t2, .inr (.inr (some (3, 0))), .inr (.inr (some (2, j0)))], zfC M) := by
  unfold m0_spendRest_68 at h
  obtain ⟨r6, M6, hc6, h⟩ := zbd_inv h
  refine zcallV Hy.1 (as := [.inl t2]) (st := [.inr (.inr (some (2, j0)))]) (m3_setting_met (zOK_G Hy.1) Hy.2.1 hc6) cw0_108 m3_setting_in m3_setting_se (by decide) (zhlv Hy.2.1 rfl) rfl (zroom Hy.2.2 ⟨by decide, by decide⟩) rfl (by decide +kernel) ⟨Nat.zero_le _, Nat.zero_le _⟩ ?_
  obtain ⟨hg8, h⟩ := zgd_inv h
  obtain ⟨M7, hc7, h⟩ := zbv_inv h
  refine zcallV Hy.1 (as := [.inl r6]) (st := []) (m2_spend_met (zOK_G Hy.1) Hy.2.1 hc7) cw0_112 m2_spend_in m2_spend_se (by decide) (zhlv Hy.2.1 hg8) rfl (zroom Hy.2.2 ⟨by decide, by decide⟩) rfl (by decide +kernel) ⟨Nat.zero_le _, Nat.zero_le _⟩ ?_
  refine zblq Hy.1 Hy.2.1 [(.aload 2, 1)] (S' := (75, [(0, .inr (.inr (some (0, 0)))), (1, .inl x1), (2, .inr (.inr (some (2, i2)))), (3, .inl x3)], [.inr (.inr (some (2, i2)))], zfC M7)) (b := true) (by decide +kernel) rfl rfl ?_
  obtain ⟨hg10, h⟩ := zgd_inv h
  obtain ⟨r9, M9, hc9, h⟩ := zbd_inv h
  refine zcallV Hy.1 (as := []) (st := []) (m2_isDead_met (zOK_G Hy.1) Hy.2.1 hc9) cw0_101 m2_isDead_in m2_isDead_se (by decide) (zhlv Hy.2.1 hg10) rfl (zroom Hy.2.2 ⟨by decide, by decide⟩) rfl (by decide +kernel) ⟨Nat.zero_le _, Nat.zero_le _⟩ ?_
  refine zif_eq Hy.1 (off := 6) (tgt := 84) (by decide +kernel) (by decide) (fun hb12 => ?_) (fun hb12 => ?_)
  · replace h := zite_t h hb12
    refine zblq Hy.1 Hy.2.1 [(.aload 0, 1), (.dup, 1), (.multianewarray 0 7, 3), (.iconst 1, 1), (.iload 1, 1), (.ishl, 1), (.ior, 1), (.invokeinterface 0 7, 3), (.iload 3, 1)] (S' := (97, [(0, .inr (.inr (some (0, 0)))), (1, .inl x1), (2, .inr (.inr (some (2, i2)))), (3, .inl x3)], [.inl x3], zfC (cs M9 0 0 7 ((cg M9 0 0 7) ||| (zshl (1 : Int32) x1))))) (b := true) (by decide +kernel) rfl rfl ?_
    refine zif_eq Hy.1 (off := 15) (tgt := 112) (by decide +kernel) (by decide) (fun hb11 => ?_) (fun hb11 => ?_)
    · replace h := zite_t h hb11
      refine zGo_keep [0, 1] rfl ?_
      exact m0_spendRest_112_ok Hy hE hk12 x1 (cs M9 0 0 7 ((cg M9 0 0 7) ||| (zshl (1 : Int32) x1))) h
    · replace h := zite_f h hb11
      refine zblq Hy.1 Hy.2.1 [(.aload 0, 1), (.dup, 1), (.multianewarray 0 8, 3), (.iconst 1, 1), (.iload 1, 1), (.ishl, 1), (.ior, 1), (.invokeinterface 0 8, 3)] (S' := (112, [(0, .inr (.inr (some (0, 0)))), (1, .inl x1), (2, .inr (.inr (some (2, i2)))), (3, .inl x3)], [], zfC (cs (cs M9 0 0 7 ((cg M9 0 0 7) ||| (zshl (1 : Int32) x1))) 0 0 8 ((cg (cs M9 0 0 7 ((cg M9 0 0 7) ||| (zshl (1 : Int32) x1))) 0 0 8) ||| (zshl (1 : Int32) x1))))) (b := true) (by decide +kernel) rfl rfl ?_
      refine zGo_keep [0, 1] rfl ?_
      exact m0_spendRest_112_ok Hy hE hk12 x1 (cs (cs M9 0 0 7 ((cg M9 0 0 7) ||| (zshl (1 : Int32) x1))) 0 0 8 ((cg (cs M9 0 0 7 ((cg M9 0 0 7) ||| (zshl (1 : Int32) x1))) 0 0 8) ||| (zshl (1 : Int32) x1))) h
  · replace h := zite_f h hb12
    refine zblq Hy.1 Hy.2.1 [(.ldc 112, 3)] (S' := (112, [(0, .inr (.inr (some (0, 0)))), (1, .inl x1), (2, .inr (.inr (some (2, i2)))), (3, .inl x3)], [], zfC M9)) (b := true) (by decide +kernel) rfl rfl ?_
    refine zGo_keep [0, 1] rfl ?_
    exact m0_spendRest_112_ok Hy hE hk12 x1 M9 h
def m0_spendRest_12 : Nat → Int32 → cM → Option cM
  | 0, _, _ => none
  | n + 1, x1, M => (if (cg M 3 0 4) ≤ x1 then some M else zbd (m3_of x1 M) (fun r1 M1 => zgd (Nat.blt r1 10) (zbd (m2_isDead r1 M1) (fun r2 M2 => (if r2 = 0 then zgd (Nat.blt r1 10) (zbd (m2_rowWakes r1 (cg M2 3 0 5) M2) (fun r4 M4 => (if r4 = 0 then m0_spendRest_68 (m0_spendRest_12 n) x1 r1 r4 r1 (0 : Int32) M4 else m0_spendRest_68 (m0_spendRest_12 n) x1 r1 r4 r1 (1 : Int32) M4))) else m0_spendRest_112 (m0_spendRest_12 n) x1 M2)))))
theorem m0_spendRest_12_ok {X : zX} {G : zG} (Hy : zHy X G q0_spendRest zcC 2 43 (none)) {M' : cM} (hE : zEnd X G (none) (zfC M')) : ∀ (n : Nat) (x1 : Int32) (M : cM), m0_spendRest_12 n x1 M = some M' → zGo (X, q0_spendRest, G) 0 0 (12, [(0, .inr (.inr (some (0, 0)))), (1, .inl x1)], [], zfC M) := by
  intro n
  induction n with
  | zero => intro x1 M h; cases h
  | succ n ih =>
    intro x1 M h
    unfold m0_spendRest_12 at h
    refine zblq Hy.1 Hy.2.1 [(.iload 1, 1), (.aload 0, 1), (.getfield 0, 3), (.multianewarray 3 4, 3)] (S' := (20, [(0, .inr (.inr (some (0, 0)))), (1, .inl x1)], [.inl (cg M 3 0 4), .inl x1], zfC M)) (b := true) (by decide +kernel) rfl rfl ?_
    refine zic_ge Hy.1 (off := 98) (tgt := 118) (by decide +kernel) (by decide) (fun hb15 => ?_) (fun hb15 => ?_)
    · replace h := zite_t h hb15
      cases h
      exact zret_v Hy.1 Hy.2.2 hE (by decide +kernel)
    · replace h := zite_f h hb15
      refine zblq Hy.1 Hy.2.1 [(.aload 0, 1), (.getfield 0, 3), (.iload 1, 1)] (S' := (28, [(0, .inr (.inr (some (0, 0)))), (1, .inl x1)], [.inl x1, .inr (.inr (some (3, 0)))], zfC M)) (b := true) (by decide +kernel) rfl rfl ?_
      obtain ⟨r1, M1, hc1, h⟩ := zbd_inv h
      refine zcallV Hy.1 (as := [.inl x1]) (st := []) (m3_of_met (zOK_G Hy.1) Hy.2.1 hc1) cw0_52 m3_of_in m3_of_se (by decide) (zhlv Hy.2.1 rfl) rfl (zroom Hy.2.2 ⟨by decide, by decide⟩) rfl (by decide +kernel) ⟨Nat.zero_le _, Nat.zero_le _⟩ ?_
      refine zblq Hy.1 Hy.2.1 [(.astore 2, 1), (.aload 2, 1)] (S' := (33, [(0, .inr (.inr (some (0, 0)))), (1, .inl x1), (2, .inr (.inr (some (2, r1))))], [.inr (.inr (some (2, r1)))], zfC M1)) (b := true) (by decide +kernel) rfl rfl ?_
      obtain ⟨hg3, h⟩ := zgd_inv h
      obtain ⟨r2, M2, hc2, h⟩ := zbd_inv h
      refine zcallV Hy.1 (as := []) (st := []) (m2_isDead_met (zOK_G Hy.1) Hy.2.1 hc2) cw0_101 m2_isDead_in m2_isDead_se (by decide) (zhlv Hy.2.1 hg3) rfl (zroom Hy.2.2 ⟨by decide, by decide⟩) rfl (by decide +kernel) ⟨Nat.zero_le _, Nat.zero_le _⟩ ?_
      refine zif_eq Hy.1 (off := 6) (tgt := 42) (by decide +kernel) (by decide) (fun hb14 => ?_) (fun hb14 => ?_)
      · replace h := zite_t h hb14
        refine zblq Hy.1 Hy.2.1 [(.aload 2, 1), (.aload 0, 1), (.getfield 0, 3), (.multianewarray 3 5, 3)] (S' := (50, [(0, .inr (.inr (some (0, 0)))), (1, .inl x1), (2, .inr (.inr (some (2, r1))))], [.inl (cg M2 3 0 5), .inr (.inr (some (2, r1)))], zfC M2)) (b := true) (by decide +kernel) rfl rfl ?_
        obtain ⟨hg5, h⟩ := zgd_inv h
        obtain ⟨r4, M4, hc4, h⟩ := zbd_inv h
        refine zcallV Hy.1 (as := [.inl (cg M2 3 0 5)]) (st := []) (m2_rowWakes_met (zOK_G Hy.1) Hy.2.1 hc4) cw0_105 m2_rowWakes_in m2_rowWakes_se (by decide) (zhlv Hy.2.1 hg5) rfl (zroom Hy.2.2 ⟨by decide, by decide⟩) rfl (by decide +kernel) ⟨Nat.zero_le _, Nat.zero_le _⟩ ?_
        refine zblq Hy.1 Hy.2.1 [(.istore 3, 1), (.aload 2, 1), (.aload 0, 1), (.getfield 0, 3), (.iload 3, 1)] (S' := (60, [(0, .inr (.inr (some (0, 0)))), (1, .inl x1), (2, .inr (.inr (some (2, r1)))), (3, .inl r4)], [.inl r4, .inr (.inr (some (3, 0))), .inr (.inr (some (2, r1)))], zfC M4)) (b := true) (by decide +kernel) rfl rfl ?_
        refine zif_eq Hy.1 (off := 7) (tgt := 67) (by decide +kernel) (by decide) (fun hb13 => ?_) (fun hb13 => ?_)
        · replace h := zite_t h hb13
          refine zblq Hy.1 Hy.2.1 [(.iconst 0, 1)] (S' := (68, [(0, .inr (.inr (some (0, 0)))), (1, .inl x1), (2, .inr (.inr (some (2, r1)))), (3, .inl r4)], [.inl (0 : Int32), .inr (.inr (some (3, 0))), .inr (.inr (some (2, r1)))], zfC M4)) (b := true) (by decide +kernel) rfl rfl ?_
          refine zGo_keep [0, 1, 2, 3] rfl ?_
          exact m0_spendRest_68_ok Hy hE ih x1 r1 r4 r1 (0 : Int32) M4 h
        · replace h := zite_f h hb13
          refine zblq Hy.1 Hy.2.1 [(.iconst 1, 1), (.ldc 68, 3)] (S' := (68, [(0, .inr (.inr (some (0, 0)))), (1, .inl x1), (2, .inr (.inr (some (2, r1)))), (3, .inl r4)], [.inl (1 : Int32), .inr (.inr (some (3, 0))), .inr (.inr (some (2, r1)))], zfC M4)) (b := true) (by decide +kernel) rfl rfl ?_
          refine zGo_keep [0, 1, 2, 3] rfl ?_
          exact m0_spendRest_68_ok Hy hE ih x1 r1 r4 r1 (1 : Int32) M4 h
      · replace h := zite_f h hb14
        refine zblq Hy.1 Hy.2.1 [(.ldc 112, 3)] (S' := (112, [(0, .inr (.inr (some (0, 0)))), (1, .inl x1), (2, .inr (.inr (some (2, r1))))], [], zfC M2)) (b := true) (by decide +kernel) rfl rfl ?_
        refine zGo_keep [0, 1] rfl ?_
        exact m0_spendRest_112_ok Hy hE ih x1 M2 h
def m0_spendRest  (M : cM) : Option cM := m0_spendRest_12 zfu (0 : Int32) (cs (cs M 0 0 7 (0 : Int32)) 0 0 8 (0 : Int32))
theorem m0_spendRest_ok {X : zX} {G : zG} (Hy : zHy X G q0_spendRest zcC 2 43 (none)) {M' : cM} (hE : zEnd X G (none) (zfC M'))  (M : cM) (h : m0_spendRest M = some M') : zGo (X, q0_spendRest, G) 0 0 (0, [(0, .inr (.inr (some (0, 0))))], [], zfC M) := by
  unfold m0_spendRest at h
  refine zblq Hy.1 Hy.2.1 [(.aload 0, 1), (.iconst 0, 1), (.invokeinterface 0 7, 3), (.aload 0, 1), (.iconst 0, 1), (.invokeinterface 0 8, 3), (.iconst 0, 1), (.istore 1, 1)] (S' := (12, [(0, .inr (.inr (some (0, 0)))), (1, .inl (0 : Int32))], [], zfC (cs (cs M 0 0 7 (0 : Int32)) 0 0 8 (0 : Int32)))) (b := true) (by decide +kernel) rfl rfl ?_
  refine zGo_keep [0, 1] rfl ?_
  exact m0_spendRest_12_ok Hy hE zfu (0 : Int32) (cs (cs M 0 0 7 (0 : Int32)) 0 0 8 (0 : Int32)) h
theorem m0_spendRest_met {l : Launch} {G : zG} (hG : zGok G) (hcn : zgcn G = zcC)  {M : cM} {M' : cM} (h : m0_spendRest M = some M') : zMet l G yX0_spendRest cX0_spendRest 4 (none) 2 43 [.inr (.inr (some (0, 0)))] (zfC M) (none) (zfC M') :=
  zMet_of hG tbX0_ok rfl (by decide +kernel) (Nat.le_of_ble_eq_true rfl) (fun X _ Z hA hE => m0_spendRest_ok ⟨Z, hcn, hA⟩ hE M h)
abbrev q7_beginsEpoch : ByteArray × Nat × String × zT := (cX7_beginsEpoch, 2, RX7, tbX7)
def m7_beginsEpoch (i0 : Nat) (x1 : Int32) (M : cM) : Option (Int32 × cM) := zgd (Nat.blt i0 2 && true) ((if (cg M 7 i0 1) ≤ 0 then some ((0 : Int32), M) else zgd (Nat.blt i0 2 && (znz (cg M 7 i0 1) && true)) ((if (zrem x1 (cg M 7 i0 1)) = 0 then some ((1 : Int32), M) else some ((0 : Int32), M)))))
theorem m7_beginsEpoch_ok {X : zX} {G : zG} (Hy : zHy X G q7_beginsEpoch zcC 0 0 (some .boolean)) {r : Int32} {M' : cM} (hE : zEnd X G (some (.inl r)) (zfC M')) (i0 : Nat) (x1 : Int32) (M : cM) (h : m7_beginsEpoch i0 x1 M = some (r, M')) : zGo (X, q7_beginsEpoch, G) 0 0 (0, [(0, .inr (.inr (some (7, i0)))), (1, .inl x1)], [], zfC M) := by
  unfold m7_beginsEpoch at h
  obtain ⟨hg1, h⟩ := zgd_inv h
  refine zblq Hy.1 Hy.2.1 [(.aload 0, 1), (.multianewarray 7 1, 3)] (S' := (4, [(0, .inr (.inr (some (7, i0)))), (1, .inl x1)], [.inl (cg M 7 i0 1)], zfC M)) (b := Nat.blt i0 2 && true) (by decide +kernel) rfl hg1 ?_
  refine zif_le Hy.1 (off := 16) (tgt := 20) (by decide +kernel) (by decide) (fun hb4 => ?_) (fun hb4 => ?_)
  · replace h := zite_t h hb4
    refine zblq Hy.1 Hy.2.1 [(.iconst 0, 1)] (S' := (21, [(0, .inr (.inr (some (7, i0)))), (1, .inl x1)], [.inl (0 : Int32)], zfC M)) (b := true) (by decide +kernel) rfl rfl ?_
    cases h
    exact zret_z Hy.1 Hy.2.2 (by decide) hE (by decide +kernel)
  · replace h := zite_f h hb4
    obtain ⟨hg2, h⟩ := zgd_inv h
    refine zblq Hy.1 Hy.2.1 [(.iload 1, 1), (.aload 0, 1), (.multianewarray 7 1, 3), (.irem, 1)] (S' := (13, [(0, .inr (.inr (some (7, i0)))), (1, .inl x1)], [.inl (zrem x1 (cg M 7 i0 1))], zfC M)) (b := Nat.blt i0 2 && (znz (cg M 7 i0 1) && true)) (by decide +kernel) rfl hg2 ?_
    refine zif_ne Hy.1 (off := 7) (tgt := 20) (by decide +kernel) (by decide) (fun hb3 => ?_) (fun hb3 => ?_)
    · replace h := zite_f h hb3
      refine zblq Hy.1 Hy.2.1 [(.iconst 0, 1)] (S' := (21, [(0, .inr (.inr (some (7, i0)))), (1, .inl x1)], [.inl (0 : Int32)], zfC M)) (b := true) (by decide +kernel) rfl rfl ?_
      cases h
      exact zret_z Hy.1 Hy.2.2 (by decide) hE (by decide +kernel)
    · replace h := zite_t h hb3
      refine zblq Hy.1 Hy.2.1 [(.iconst 1, 1), (.ldc 21, 3)] (S' := (21, [(0, .inr (.inr (some (7, i0)))), (1, .inl x1)], [.inl (1 : Int32)], zfC M)) (b := true) (by decide +kernel) rfl rfl ?_
      cases h
      exact zret_z Hy.1 Hy.2.2 (by decide) hE (by decide +kernel)
theorem m7_beginsEpoch_met {l : Launch} {G : zG} (hG : zGok G) (hcn : zgcn G = zcC) {i0 : Nat} {x1 : Int32} {M : cM} {r : Int32} {M' : cM} (h : m7_beginsEpoch i0 x1 M = some (r, M')) : zMet l G yX7_beginsEpoch cX7_beginsEpoch 2 (some .boolean) 0 0 [.inr (.inr (some (7, i0))), .inl x1] (zfC M) (some (.inl r)) (zfC M') :=
  zMet_of hG tbX7_ok rfl (by decide +kernel) (Nat.le_of_ble_eq_true rfl) (fun X _ Z hA hE => m7_beginsEpoch_ok ⟨Z, hcn, hA⟩ hE i0 x1 M h)
abbrev qJ9_max : ByteArray × Nat × String × zT := (cJ9_max_7cf53, 2, RJ9, tbJ9)
def mJ9_max (x0 : Int32) (x1 : Int32) (M : cM) : Option (Int32 × cM) := (if x0 < x1 then some (x1, M) else some (x0, M))
theorem mJ9_max_ok {X : zX} {G : zG} (Hy : zHy X G qJ9_max zcC 0 0 (some .int)) {r : Int32} {M' : cM} (hE : zEnd X G (some (.inl r)) (zfC M')) (x0 : Int32) (x1 : Int32) (M : cM) (h : mJ9_max x0 x1 M = some (r, M')) : zGo (X, qJ9_max, G) 0 0 (0, [(0, .inl x0), (1, .inl x1)], [], zfC M) := by
  unfold mJ9_max at h
  refine zblq Hy.1 Hy.2.1 [(.iload 0, 1), (.iload 1, 1)] (S' := (2, [(0, .inl x0), (1, .inl x1)], [.inl x1, .inl x0], zfC M)) (b := true) (by decide +kernel) rfl rfl ?_
  refine zic_lt Hy.1 (off := 7) (tgt := 9) (by decide +kernel) (by decide) (fun hb1 => ?_) (fun hb1 => ?_)
  · replace h := zite_t h hb1
    refine zblq Hy.1 Hy.2.1 [(.iload 1, 1)] (S' := (10, [(0, .inl x0), (1, .inl x1)], [.inl x1], zfC M)) (b := true) (by decide +kernel) rfl rfl ?_
    cases h
    exact zret_i Hy.1 Hy.2.2 hE (by decide +kernel)
  · replace h := zite_f h hb1
    refine zblq Hy.1 Hy.2.1 [(.iload 0, 1), (.ldc 10, 3)] (S' := (10, [(0, .inl x0), (1, .inl x1)], [.inl x0], zfC M)) (b := true) (by decide +kernel) rfl rfl ?_
    cases h
    exact zret_i Hy.1 Hy.2.2 hE (by decide +kernel)
theorem mJ9_max_met {l : Launch} {G : zG} (hG : zGok G) (hcn : zgcn G = zcC) {x0 : Int32} {x1 : Int32} {M : cM} {r : Int32} {M' : cM} (h : mJ9_max x0 x1 M = some (r, M')) : zMet l G yJ9_max_7cf53 cJ9_max_7cf53 2 (some .int) 0 0 [.inl x0, .inl x1] (zfC M) (some (.inl r)) (zfC M') :=
  zMet_ofF hG tbJ9_ok rfl (by decide +kernel) (Nat.le_of_ble_eq_true rfl) (fun X _ Z hA hE => mJ9_max_ok ⟨Z, hcn, hA⟩ hE x0 x1 M h)
abbrev q3_deepest : ByteArray × Nat × String × zT := (cX3_deepest, 3, RX3, tbX3)
def m3_deepest_4 : Nat → Int32 → Int32 → cM → Option (Int32 × cM)
  | 0, _, _, _ => none
  | n + 1, x1, x2, M => (if (cg M 3 0 4) ≤ x2 then some (x1, M) else zbd (m3_of x2 M) (fun r1 M1 => zgd (Nat.blt r1 10) (zbd (m2_countNow r1 M1) (fun r2 M2 => zbd (mJ9_max x1 r2 M2) (fun r4 M4 => (m3_deepest_4 n) r4 (x2 + (1 : Int32)) M4)))))
theorem m3_deepest_4_ok {X : zX} {G : zG} (Hy : zHy X G q3_deepest zcC 2 40 (some .int)) {r : Int32} {M' : cM} (hE : zEnd X G (some (.inl r)) (zfC M')) : ∀ (n : Nat) (x1 : Int32) (x2 : Int32) (M : cM), m3_deepest_4 n x1 x2 M = some (r, M') → zGo (X, q3_deepest, G) 0 0 (4, [(0, .inr (.inr (some (3, 0)))), (1, .inl x1), (2, .inl x2)], [], zfC M) := by
  intro n
  induction n with
  | zero => intro x1 x2 M h; cases h
  | succ n ih =>
    intro x1 x2 M h
    unfold m3_deepest_4 at h
    refine zblq Hy.1 Hy.2.1 [(.iload 2, 1), (.aload 0, 1), (.multianewarray 3 4, 3)] (S' := (9, [(0, .inr (.inr (some (3, 0)))), (1, .inl x1), (2, .inl x2)], [.inl (cg M 3 0 4), .inl x2], zfC M)) (b := true) (by decide +kernel) rfl rfl ?_
    refine zic_ge Hy.1 (off := 22) (tgt := 31) (by decide +kernel) (by decide) (fun hb5 => ?_) (fun hb5 => ?_)
    · replace h := zite_t h hb5
      refine zblq Hy.1 Hy.2.1 [(.iload 1, 1)] (S' := (32, [(0, .inr (.inr (some (3, 0)))), (1, .inl x1), (2, .inl x2)], [.inl x1], zfC M)) (b := true) (by decide +kernel) rfl rfl ?_
      cases h
      exact zret_i Hy.1 Hy.2.2 hE (by decide +kernel)
    · replace h := zite_f h hb5
      refine zblq Hy.1 Hy.2.1 [(.iload 1, 1), (.aload 0, 1), (.iload 2, 1)] (S' := (15, [(0, .inr (.inr (some (3, 0)))), (1, .inl x1), (2, .inl x2)], [.inl x2, .inr (.inr (some (3, 0))), .inl x1], zfC M)) (b := true) (by decide +kernel) rfl rfl ?_
      obtain ⟨r1, M1, hc1, h⟩ := zbd_inv h
      refine zcallV Hy.1 (as := [.inl x2]) (st := [.inl x1]) (m3_of_met (zOK_G Hy.1) Hy.2.1 hc1) cw3_63 m3_of_in m3_of_se (by decide) (zhlv Hy.2.1 rfl) rfl (zroom Hy.2.2 ⟨by decide, by decide⟩) rfl (by decide +kernel) ⟨Nat.zero_le _, Nat.zero_le _⟩ ?_
      obtain ⟨hg3, h⟩ := zgd_inv h
      obtain ⟨r2, M2, hc2, h⟩ := zbd_inv h
      refine zcallV Hy.1 (as := []) (st := [.inl x1]) (m2_countNow_met (zOK_G Hy.1) Hy.2.1 hc2) cw3_78 m2_countNow_in m2_countNow_se (by decide) (zhlv Hy.2.1 hg3) rfl (zroom Hy.2.2 ⟨by decide, by decide⟩) rfl (by decide +kernel) ⟨Nat.zero_le _, Nat.zero_le _⟩ ?_
      obtain ⟨r4, M4, hc4, h⟩ := zbd_inv h
      refine zcallS Hy.1 (as := [.inl x1, .inl r2]) (st := []) (mJ9_max_met (zOK_G Hy.1) Hy.2.1 hc4) cw3_81 mJ9_max_in rfl (zroom Hy.2.2 ⟨by decide, by decide⟩) rfl (by decide +kernel) ⟨Nat.zero_le _, Nat.zero_le _⟩ ?_
      refine zblq Hy.1 Hy.2.1 [(.istore 1, 1), (.iinc 2 1, 3), (.ldc 4, 3)] (S' := (4, [(0, .inr (.inr (some (3, 0)))), (1, .inl r4), (2, .inl (x2 + (1 : Int32)))], [], zfC M4)) (b := true) (by decide +kernel) rfl rfl ?_
      refine zGo_keep [0, 1, 2] rfl ?_
      exact ih r4 (x2 + (1 : Int32)) M4 h
def m3_deepest  (M : cM) : Option (Int32 × cM) := m3_deepest_4 zfu (-1 : Int32) (0 : Int32) M
theorem m3_deepest_ok {X : zX} {G : zG} (Hy : zHy X G q3_deepest zcC 2 40 (some .int)) {r : Int32} {M' : cM} (hE : zEnd X G (some (.inl r)) (zfC M'))  (M : cM) (h : m3_deepest M = some (r, M')) : zGo (X, q3_deepest, G) 0 0 (0, [(0, .inr (.inr (some (3, 0))))], [], zfC M) := by
  unfold m3_deepest at h
  refine zblq Hy.1 Hy.2.1 [(.iconst (-1), 1), (.istore 1, 1), (.iconst 0, 1), (.istore 2, 1)] (S' := (4, [(0, .inr (.inr (some (3, 0)))), (1, .inl (-1 : Int32)), (2, .inl (0 : Int32))], [], zfC M)) (b := true) (by decide +kernel) rfl rfl ?_
  refine zGo_keep [0, 1, 2] rfl ?_
  exact m3_deepest_4_ok Hy hE zfu (-1 : Int32) (0 : Int32) M h
theorem m3_deepest_met {l : Launch} {G : zG} (hG : zGok G) (hcn : zgcn G = zcC)  {M : cM} {r : Int32} {M' : cM} (h : m3_deepest M = some (r, M')) : zMet l G yX3_deepest cX3_deepest 3 (some .int) 2 40 [.inr (.inr (some (3, 0)))] (zfC M) (some (.inl r)) (zfC M') :=
  zMet_of hG tbX3_ok rfl (by decide +kernel) (Nat.le_of_ble_eq_true rfl) (fun X _ Z hA hE => m3_deepest_ok ⟨Z, hcn, hA⟩ hE M h)
abbrev q0_isIn : ByteArray × Nat × String × zT := (cX0_isIn, 2, RX0, tbX0)
def m0_isIn (x0 : Int32) (x1 : Int32) (M : cM) : Option (Int32 × cM) := (if ((zshr x0 x1) &&& (1 : Int32)) = (1 : Int32) then some ((1 : Int32), M) else some ((0 : Int32), M))
theorem m0_isIn_ok {X : zX} {G : zG} (Hy : zHy X G q0_isIn zcC 0 0 (some .boolean)) {r : Int32} {M' : cM} (hE : zEnd X G (some (.inl r)) (zfC M')) (x0 : Int32) (x1 : Int32) (M : cM) (h : m0_isIn x0 x1 M = some (r, M')) : zGo (X, q0_isIn, G) 0 0 (0, [(0, .inl x0), (1, .inl x1)], [], zfC M) := by
  unfold m0_isIn at h
  refine zblq Hy.1 Hy.2.1 [(.iload 0, 1), (.iload 1, 1), (.ishr, 1), (.iconst 1, 1), (.iand, 1), (.iconst 1, 1)] (S' := (6, [(0, .inl x0), (1, .inl x1)], [.inl (1 : Int32), .inl ((zshr x0 x1) &&& (1 : Int32))], zfC M)) (b := true) (by decide +kernel) rfl rfl ?_
  refine zic_ne Hy.1 (off := 7) (tgt := 13) (by decide +kernel) (by decide) (fun hb1 => ?_) (fun hb1 => ?_)
  · replace h := zite_f h hb1
    refine zblq Hy.1 Hy.2.1 [(.iconst 0, 1)] (S' := (14, [(0, .inl x0), (1, .inl x1)], [.inl (0 : Int32)], zfC M)) (b := true) (by decide +kernel) rfl rfl ?_
    cases h
    exact zret_z Hy.1 Hy.2.2 (by decide) hE (by decide +kernel)
  · replace h := zite_t h hb1
    refine zblq Hy.1 Hy.2.1 [(.iconst 1, 1), (.ldc 14, 3)] (S' := (14, [(0, .inl x0), (1, .inl x1)], [.inl (1 : Int32)], zfC M)) (b := true) (by decide +kernel) rfl rfl ?_
    cases h
    exact zret_z Hy.1 Hy.2.2 (by decide) hE (by decide +kernel)
theorem m0_isIn_met {l : Launch} {G : zG} (hG : zGok G) (hcn : zgcn G = zcC) {x0 : Int32} {x1 : Int32} {M : cM} {r : Int32} {M' : cM} (h : m0_isIn x0 x1 M = some (r, M')) : zMet l G yX0_isIn cX0_isIn 2 (some .boolean) 0 0 [.inl x0, .inl x1] (zfC M) (some (.inl r)) (zfC M') :=
  zMet_of hG tbX0_ok rfl (by decide +kernel) (Nat.le_of_ble_eq_true rfl) (fun X _ Z hA hE => m0_isIn_ok ⟨Z, hcn, hA⟩ hE x0 x1 M h)
abbrev q9_isEmpty : ByteArray × Nat × String × zT := (cX9_isEmpty, 1, RX9, tbX9)
def m9_isEmpty (i0 : Nat) (M : cM) : Option (Int32 × cM) := zgd (Nat.blt i0 51 && true) ((if (cg M 9 i0 2) = 0 then some ((1 : Int32), M) else some ((0 : Int32), M)))
theorem m9_isEmpty_ok {X : zX} {G : zG} (Hy : zHy X G q9_isEmpty zcC 0 0 (some .boolean)) {r : Int32} {M' : cM} (hE : zEnd X G (some (.inl r)) (zfC M')) (i0 : Nat) (M : cM) (h : m9_isEmpty i0 M = some (r, M')) : zGo (X, q9_isEmpty, G) 0 0 (0, [(0, .inr (.inr (some (9, i0))))], [], zfC M) := by
  unfold m9_isEmpty at h
  obtain ⟨hg1, h⟩ := zgd_inv h
  refine zblq Hy.1 Hy.2.1 [(.aload 0, 1), (.multianewarray 9 2, 3)] (S' := (4, [(0, .inr (.inr (some (9, i0))))], [.inl (cg M 9 i0 2)], zfC M)) (b := Nat.blt i0 51 && true) (by decide +kernel) rfl hg1 ?_
  refine zif_ne Hy.1 (off := 7) (tgt := 11) (by decide +kernel) (by decide) (fun hb2 => ?_) (fun hb2 => ?_)
  · replace h := zite_f h hb2
    refine zblq Hy.1 Hy.2.1 [(.iconst 0, 1)] (S' := (12, [(0, .inr (.inr (some (9, i0))))], [.inl (0 : Int32)], zfC M)) (b := true) (by decide +kernel) rfl rfl ?_
    cases h
    exact zret_z Hy.1 Hy.2.2 (by decide) hE (by decide +kernel)
  · replace h := zite_t h hb2
    refine zblq Hy.1 Hy.2.1 [(.iconst 1, 1), (.ldc 12, 3)] (S' := (12, [(0, .inr (.inr (some (9, i0))))], [.inl (1 : Int32)], zfC M)) (b := true) (by decide +kernel) rfl rfl ?_
    cases h
    exact zret_z Hy.1 Hy.2.2 (by decide) hE (by decide +kernel)
theorem m9_isEmpty_met {l : Launch} {G : zG} (hG : zGok G) (hcn : zgcn G = zcC) {i0 : Nat} {M : cM} {r : Int32} {M' : cM} (h : m9_isEmpty i0 M = some (r, M')) : zMet l G yX9_isEmpty cX9_isEmpty 1 (some .boolean) 0 0 [.inr (.inr (some (9, i0)))] (zfC M) (some (.inl r)) (zfC M') :=
  zMet_of hG tbX9_ok rfl (by decide +kernel) (Nat.le_of_ble_eq_true rfl) (fun X _ Z hA hE => m9_isEmpty_ok ⟨Z, hcn, hA⟩ hE i0 M h)
abbrev q2_hasUnsaidSum : ByteArray × Nat × String × zT := (cX2_hasUnsaidSum, 1, RX2, tbX2)
def m2_hasUnsaidSum (i0 : Nat) (M : cM) : Option (Int32 × cM) := zgd (Nat.blt i0 10 && true) (zgd (Nat.blt i0 51) (zbd (m9_isEmpty i0 M) (fun r2 M2 => (if r2 = 0 then zgd (Nat.blt i0 10 && true) ((if (cg M2 2 i0 14) = 0 then some ((1 : Int32), M2) else some ((0 : Int32), M2))) else some ((0 : Int32), M2)))))
theorem m2_hasUnsaidSum_ok {X : zX} {G : zG} (Hy : zHy X G q2_hasUnsaidSum zcC 1 20 (some .boolean)) {r : Int32} {M' : cM} (hE : zEnd X G (some (.inl r)) (zfC M')) (i0 : Nat) (M : cM) (h : m2_hasUnsaidSum i0 M = some (r, M')) : zGo (X, q2_hasUnsaidSum, G) 0 0 (0, [(0, .inr (.inr (some (2, i0))))], [], zfC M) := by
  unfold m2_hasUnsaidSum at h
  obtain ⟨hg1, h⟩ := zgd_inv h
  refine zblq Hy.1 Hy.2.1 [(.aload 0, 1), (.getfield 213, 3)] (S' := (4, [(0, .inr (.inr (some (2, i0))))], [.inr (.inr (some (9, i0)))], zfC M)) (b := Nat.blt i0 10 && true) (by decide +kernel) rfl hg1 ?_
  obtain ⟨hg3, h⟩ := zgd_inv h
  obtain ⟨r2, M2, hc2, h⟩ := zbd_inv h
  refine zcallV Hy.1 (as := []) (st := []) (m9_isEmpty_met (zOK_G Hy.1) Hy.2.1 hc2) cw2_95 m9_isEmpty_in m9_isEmpty_se (by decide) (zhlv Hy.2.1 hg3) rfl (zroom Hy.2.2 ⟨by decide, by decide⟩) rfl (by decide +kernel) ⟨Nat.zero_le _, Nat.zero_le _⟩ ?_
  refine zif_ne Hy.1 (off := 14) (tgt := 21) (by decide +kernel) (by decide) (fun hb6 => ?_) (fun hb6 => ?_)
  · replace h := zite_f h hb6
    refine zblq Hy.1 Hy.2.1 [(.iconst 0, 1)] (S' := (22, [(0, .inr (.inr (some (2, i0))))], [.inl (0 : Int32)], zfC M2)) (b := true) (by decide +kernel) rfl rfl ?_
    cases h
    exact zret_z Hy.1 Hy.2.2 (by decide) hE (by decide +kernel)
  · replace h := zite_t h hb6
    obtain ⟨hg4, h⟩ := zgd_inv h
    refine zblq Hy.1 Hy.2.1 [(.aload 0, 1), (.multianewarray 2 14, 3)] (S' := (14, [(0, .inr (.inr (some (2, i0))))], [.inl (cg M2 2 i0 14)], zfC M2)) (b := Nat.blt i0 10 && true) (by decide +kernel) rfl hg4 ?_
    refine zif_ne Hy.1 (off := 7) (tgt := 21) (by decide +kernel) (by decide) (fun hb5 => ?_) (fun hb5 => ?_)
    · replace h := zite_f h hb5
      refine zblq Hy.1 Hy.2.1 [(.iconst 0, 1)] (S' := (22, [(0, .inr (.inr (some (2, i0))))], [.inl (0 : Int32)], zfC M2)) (b := true) (by decide +kernel) rfl rfl ?_
      cases h
      exact zret_z Hy.1 Hy.2.2 (by decide) hE (by decide +kernel)
    · replace h := zite_t h hb5
      refine zblq Hy.1 Hy.2.1 [(.iconst 1, 1), (.ldc 22, 3)] (S' := (22, [(0, .inr (.inr (some (2, i0))))], [.inl (1 : Int32)], zfC M2)) (b := true) (by decide +kernel) rfl rfl ?_
      cases h
      exact zret_z Hy.1 Hy.2.2 (by decide) hE (by decide +kernel)
theorem m2_hasUnsaidSum_met {l : Launch} {G : zG} (hG : zGok G) (hcn : zgcn G = zcC) {i0 : Nat} {M : cM} {r : Int32} {M' : cM} (h : m2_hasUnsaidSum i0 M = some (r, M')) : zMet l G yX2_hasUnsaidSum cX2_hasUnsaidSum 1 (some .boolean) 1 20 [.inr (.inr (some (2, i0)))] (zfC M) (some (.inl r)) (zfC M') :=
  zMet_of hG tbX2_ok rfl (by decide +kernel) (Nat.le_of_ble_eq_true rfl) (fun X _ Z hA hE => m2_hasUnsaidSum_ok ⟨Z, hcn, hA⟩ hE i0 M h)
abbrev q9_copy : ByteArray × Nat × String × zT := (cX9_copy, 2, RX9, tbX9)
def m9_copy_32 (i0 : Nat) (i1 : Nat) (M : cM) : Option cM := zgd (Nat.blt i1 51 && ((Nat.blt i0 51 && true) && true)) (some (cs M 9 i0 4 (cg M 9 i1 4)))
theorem m9_copy_32_ok {X : zX} {G : zG} (Hy : zHy X G q9_copy zcC 0 0 (none)) {M' : cM} (hE : zEnd X G (none) (zfC M')) (i0 : Nat) (i1 : Nat) (M : cM) (h : m9_copy_32 i0 i1 M = some M') : zGo (X, q9_copy, G) 0 0 (32, [(0, .inr (.inr (some (9, i0)))), (1, .inr (.inr (some (9, i1))))], [], zfC M) := by
  unfold m9_copy_32 at h
  obtain ⟨hg2, h⟩ := zgd_inv h
  refine zblq Hy.1 Hy.2.1 [(.aload 0, 1), (.aload 1, 1), (.multianewarray 9 4, 3), (.invokeinterface 9 4, 3)] (S' := (40, [(0, .inr (.inr (some (9, i0)))), (1, .inr (.inr (some (9, i1))))], [], zfC (cs M 9 i0 4 (cg M 9 i1 4)))) (b := Nat.blt i1 51 && ((Nat.blt i0 51 && true) && true)) (by decide +kernel) rfl hg2 ?_
  cases h
  exact zret_v Hy.1 Hy.2.2 hE (by decide +kernel)
def m9_copy (i0 : Nat) (i1 : Nat) (M : cM) : Option cM := zgd (Nat.blt i1 51 && ((Nat.blt i0 51 && true) && (Nat.blt i1 51 && ((Nat.blt i0 51 && true) && (Nat.blt i1 51 && ((Nat.blt i0 51 && true) && (Nat.blt i1 51 && ((Nat.blt i0 51 && true) && true)))))))) (m9_copy_32 i0 i1 (cs (cs (cs (cs M 9 i0 0 (cg M 9 i1 0)) 9 i0 1 (cg (cs M 9 i0 0 (cg M 9 i1 0)) 9 i1 1)) 9 i0 2 (cg (cs (cs M 9 i0 0 (cg M 9 i1 0)) 9 i0 1 (cg (cs M 9 i0 0 (cg M 9 i1 0)) 9 i1 1)) 9 i1 2)) 9 i0 3 (cg (cs (cs (cs M 9 i0 0 (cg M 9 i1 0)) 9 i0 1 (cg (cs M 9 i0 0 (cg M 9 i1 0)) 9 i1 1)) 9 i0 2 (cg (cs (cs M 9 i0 0 (cg M 9 i1 0)) 9 i0 1 (cg (cs M 9 i0 0 (cg M 9 i1 0)) 9 i1 1)) 9 i1 2)) 9 i1 3)))
theorem m9_copy_ok {X : zX} {G : zG} (Hy : zHy X G q9_copy zcC 0 0 (none)) {M' : cM} (hE : zEnd X G (none) (zfC M')) (i0 : Nat) (i1 : Nat) (M : cM) (h : m9_copy i0 i1 M = some M') : zGo (X, q9_copy, G) 0 0 (0, [(0, .inr (.inr (some (9, i0)))), (1, .inr (.inr (some (9, i1))))], [], zfC M) := by
  unfold m9_copy at h
  obtain ⟨hg1, h⟩ := zgd_inv h
  refine zblq Hy.1 Hy.2.1 [(.aload 0, 1), (.aload 1, 1), (.multianewarray 9 0, 3), (.invokeinterface 9 0, 3), (.aload 0, 1), (.aload 1, 1), (.multianewarray 9 1, 3), (.invokeinterface 9 1, 3), (.aload 0, 1), (.aload 1, 1), (.multianewarray 9 2, 3), (.invokeinterface 9 2, 3), (.aload 0, 1), (.aload 1, 1), (.multianewarray 9 3, 3), (.invokeinterface 9 3, 3)] (S' := (32, [(0, .inr (.inr (some (9, i0)))), (1, .inr (.inr (some (9, i1))))], [], zfC (cs (cs (cs (cs M 9 i0 0 (cg M 9 i1 0)) 9 i0 1 (cg (cs M 9 i0 0 (cg M 9 i1 0)) 9 i1 1)) 9 i0 2 (cg (cs (cs M 9 i0 0 (cg M 9 i1 0)) 9 i0 1 (cg (cs M 9 i0 0 (cg M 9 i1 0)) 9 i1 1)) 9 i1 2)) 9 i0 3 (cg (cs (cs (cs M 9 i0 0 (cg M 9 i1 0)) 9 i0 1 (cg (cs M 9 i0 0 (cg M 9 i1 0)) 9 i1 1)) 9 i0 2 (cg (cs (cs M 9 i0 0 (cg M 9 i1 0)) 9 i0 1 (cg (cs M 9 i0 0 (cg M 9 i1 0)) 9 i1 1)) 9 i1 2)) 9 i1 3)))) (b := Nat.blt i1 51 && ((Nat.blt i0 51 && true) && (Nat.blt i1 51 && ((Nat.blt i0 51 && true) && (Nat.blt i1 51 && ((Nat.blt i0 51 && true) && (Nat.blt i1 51 && ((Nat.blt i0 51 && true) && true)))))))) (by decide +kernel) rfl hg1 ?_
  refine zGo_keep [0, 1] rfl ?_
  exact m9_copy_32_ok Hy hE i0 i1 (cs (cs (cs (cs M 9 i0 0 (cg M 9 i1 0)) 9 i0 1 (cg (cs M 9 i0 0 (cg M 9 i1 0)) 9 i1 1)) 9 i0 2 (cg (cs (cs M 9 i0 0 (cg M 9 i1 0)) 9 i0 1 (cg (cs M 9 i0 0 (cg M 9 i1 0)) 9 i1 1)) 9 i1 2)) 9 i0 3 (cg (cs (cs (cs M 9 i0 0 (cg M 9 i1 0)) 9 i0 1 (cg (cs M 9 i0 0 (cg M 9 i1 0)) 9 i1 1)) 9 i0 2 (cg (cs (cs M 9 i0 0 (cg M 9 i1 0)) 9 i0 1 (cg (cs M 9 i0 0 (cg M 9 i1 0)) 9 i1 1)) 9 i1 2)) 9 i1 3)) h
theorem m9_copy_met {l : Launch} {G : zG} (hG : zGok G) (hcn : zgcn G = zcC) {i0 : Nat} {i1 : Nat} {M : cM} {M' : cM} (h : m9_copy i0 i1 M = some M') : zMet l G yX9_copy cX9_copy 2 (none) 0 0 [.inr (.inr (some (9, i0))), .inr (.inr (some (9, i1)))] (zfC M) (none) (zfC M') :=
  zMet_of hG tbX9_ok rfl (by decide +kernel) (Nat.le_of_ble_eq_true rfl) (fun X _ Z hA hE => m9_copy_ok ⟨Z, hcn, hA⟩ hE i0 i1 M h)
abbrev q8_addSum : ByteArray × Nat × String × zT := (cX8_addSum, 2, RX8, tbX8)
def m8_addSum (i0 : Nat) (i1 : Nat) (M : cM) : Option cM := zgd (Nat.blt i0 10) (zbd (m8_isFull i0 M) (fun r1 M1 => (if r1 = 0 then zgd (Nat.blt i0 10 && (Nat.blt i0 10 && ((Nat.blt i0 10 && zin (cg M1 8 i0 2) 4) && (Nat.blt i0 10 && (Nat.blt i0 10 && ((Nat.blt i0 10 && zin (cg (cs M1 900 i0 (nx (cg M1 8 i0 2)) (-1 : Int32)) 8 i0 2) 4) && true)))))) (zgd (Nat.blt (cp (cs M1 900 i0 (nx (cg M1 8 i0 2)) (-1 : Int32)) 901 i0 (nx (cg (cs M1 900 i0 (nx (cg M1 8 i0 2)) (-1 : Int32)) 8 i0 2))) 51) (zbv (m9_copy (cp (cs M1 900 i0 (nx (cg M1 8 i0 2)) (-1 : Int32)) 901 i0 (nx (cg (cs M1 900 i0 (nx (cg M1 8 i0 2)) (-1 : Int32)) 8 i0 2))) i1 (cs M1 900 i0 (nx (cg M1 8 i0 2)) (-1 : Int32))) (fun M4 => zgd (Nat.blt i0 10 && ((Nat.blt i0 10 && true) && true)) (some (cs M4 8 i0 2 ((cg M4 8 i0 2) + (1 : Int32))))))) else some M1)))
theorem m8_addSum_ok {X : zX} {G : zG} (Hy : zHy X G q8_addSum zcC 1 21 (none)) {M' : cM} (hE : zEnd X G (none) (zfC M')) (i0 : Nat) (i1 : Nat) (M : cM) (h : m8_addSum i0 i1 M = some M') : zGo (X, q8_addSum, G) 0 0 (0, [(0, .inr (.inr (some (8, i0)))), (1, .inr (.inr (some (9, i1))))], [], zfC M) := by
  unfold m8_addSum at h
  refine zblq Hy.1 Hy.2.1 [(.aload 0, 1)] (S' := (1, [(0, .inr (.inr (some (8, i0)))), (1, .inr (.inr (some (9, i1))))], [.inr (.inr (some (8, i0)))], zfC M)) (b := true) (by decide +kernel) rfl rfl ?_
  obtain ⟨hg2, h⟩ := zgd_inv h
  obtain ⟨r1, M1, hc1, h⟩ := zbd_inv h
  refine zcallV Hy.1 (as := []) (st := []) (m8_isFull_met (zOK_G Hy.1) Hy.2.1 hc1) cw8_24 m8_isFull_in m8_isFull_se (by decide) (zhlv Hy.2.1 hg2) rfl (zroom Hy.2.2 ⟨by decide, by decide⟩) rfl (by decide +kernel) ⟨Nat.zero_le _, Nat.zero_le _⟩ ?_
  refine zif_eq Hy.1 (off := 4) (tgt := 8) (by decide +kernel) (by decide) (fun hb7 => ?_) (fun hb7 => ?_)
  · replace h := zite_t h hb7
    obtain ⟨hg3, h⟩ := zgd_inv h
    refine zblq Hy.1 Hy.2.1 [(.aload 0, 1), (.getfield 800, 3), (.aload 0, 1), (.multianewarray 8 2, 3), (.iconst (-1), 1), (.iastore, 1), (.aload 0, 1), (.getfield 801, 3), (.aload 0, 1), (.multianewarray 8 2, 3), (.aaload, 1), (.aload 1, 1)] (S' := (28, [(0, .inr (.inr (some (8, i0)))), (1, .inr (.inr (some (9, i1))))], [.inr (.inr (some (9, i1))), .inr (.inr (some (9, (cp (cs M1 900 i0 (nx (cg M1 8 i0 2)) (-1 : Int32)) 901 i0 (nx (cg (cs M1 900 i0 (nx (cg M1 8 i0 2)) (-1 : Int32)) 8 i0 2))))))], zfC (cs M1 900 i0 (nx (cg M1 8 i0 2)) (-1 : Int32)))) (b := Nat.blt i0 10 && (Nat.blt i0 10 && ((Nat.blt i0 10 && zin (cg M1 8 i0 2) 4) && (Nat.blt i0 10 && (Nat.blt i0 10 && ((Nat.blt i0 10 && zin (cg (cs M1 900 i0 (nx (cg M1 8 i0 2)) (-1 : Int32)) 8 i0 2) 4) && true)))))) (by decide +kernel) rfl hg3 ?_
    obtain ⟨hg5, h⟩ := zgd_inv h
    obtain ⟨M4, hc4, h⟩ := zbv_inv h
    refine zcallV Hy.1 (as := [.inr (.inr (some (9, i1)))]) (st := []) (m9_copy_met (zOK_G Hy.1) Hy.2.1 hc4) cw8_28 m9_copy_in m9_copy_se (by decide) (zhlv Hy.2.1 hg5) rfl (zroom Hy.2.2 ⟨by decide, by decide⟩) rfl (by decide +kernel) ⟨Nat.zero_le _, Nat.zero_le _⟩ ?_
    obtain ⟨hg6, h⟩ := zgd_inv h
    refine zblq Hy.1 Hy.2.1 [(.aload 0, 1), (.dup, 1), (.multianewarray 8 2, 3), (.iconst 1, 1), (.iadd, 1), (.invokeinterface 8 2, 3)] (S' := (41, [(0, .inr (.inr (some (8, i0)))), (1, .inr (.inr (some (9, i1))))], [], zfC (cs M4 8 i0 2 ((cg M4 8 i0 2) + (1 : Int32))))) (b := Nat.blt i0 10 && ((Nat.blt i0 10 && true) && true)) (by decide +kernel) rfl hg6 ?_
    cases h
    exact zret_v Hy.1 Hy.2.2 hE (by decide +kernel)
  · replace h := zite_f h hb7
    cases h
    exact zret_v Hy.1 Hy.2.2 hE (by decide +kernel)
theorem m8_addSum_met {l : Launch} {G : zG} (hG : zGok G) (hcn : zgcn G = zcC) {i0 : Nat} {i1 : Nat} {M : cM} {M' : cM} (h : m8_addSum i0 i1 M = some M') : zMet l G yX8_addSum cX8_addSum 2 (none) 1 21 [.inr (.inr (some (8, i0))), .inr (.inr (some (9, i1)))] (zfC M) (none) (zfC M') :=
  zMet_of hG tbX8_ok rfl (by decide +kernel) (Nat.le_of_ble_eq_true rfl) (fun X _ Z hA hE => m8_addSum_ok ⟨Z, hcn, hA⟩ hE i0 i1 M h)
abbrev q0_queueSums : ByteArray × Nat × String × zT := (cX0_queueSums, 5, RX0, tbX0)
def m0_queueSums_131 (k19 : Int32 → Int32 → Int32 → cM → Option cM) (x1 : Int32) (x2 : Int32) (x3 : Int32) (M : cM) : Option cM := k19 x1 x2 (x3 + (1 : Int32)) M
theorem m0_queueSums_131_ok {X : zX} {G : zG} (Hy : zHy X G q0_queueSums zcC 3 62 (none)) {M' : cM} (hE : zEnd X G (none) (zfC M')) {k19 : Int32 → Int32 → Int32 → cM → Option cM} (hk19 : ∀ (x1 : Int32) (x2 : Int32) (x3 : Int32) (M : cM), k19 x1 x2 x3 M = some M' → zGo (X, q0_queueSums, G) 0 0 (19, [(0, .inr (.inr (some (0, 0)))), (1, .inl x1), (2, .inl x2), (3, .inl x3)], [], zfC M)) (x1 : Int32) (x2 : Int32) (x3 : Int32) (M : cM) (h : m0_queueSums_131 k19 x1 x2 x3 M = some M') : zGo (X, q0_queueSums, G) 0 0 (131, [(0, .inr (.inr (some (0, 0)))), (1, .inl x1), (2, .inl x2), (3, .inl x3)], [], zfC M) := by
  unfold m0_queueSums_131 at h
  refine zblq Hy.1 Hy.2.1 [(.iinc 3 1, 3), (.ldc 19, 3)] (S' := (19, [(0, .inr (.inr (some (0, 0)))), (1, .inl x1), (2, .inl x2), (3, .inl (x3 + (1 : Int32)))], [], zfC M)) (b := true) (by decide +kernel) rfl rfl ?_
  refine zGo_keep [0, 1, 2, 3] rfl ?_
  exact hk19 x1 x2 (x3 + (1 : Int32)) M h
def m0_queueSums_19 : Nat → Int32 → Int32 → Int32 → cM → Option cM
  | 0, _, _, _, _ => none
  | n + 1, x1, x2, x3, M => (if (cg M 3 0 4) ≤ x3 then some M else zbd (m3_of x3 M) (fun r3 M3 => zgd (Nat.blt r3 10 && true) ((if (cg M3 2 r3 7) = (-1 : Int32) then m0_queueSums_131 (m0_queueSums_19 n) x1 x2 x3 M3 else zbd (m0_isIn (cg M3 0 0 8) x3 M3) (fun r5 M5 => (if r5 = 0 then m0_queueSums_131 (m0_queueSums_19 n) x1 x2 x3 M5 else zgd (Nat.blt r3 10) (zbd (m2_hasUnsaidSum r3 M5) (fun r6 M6 => (if r6 = 0 then m0_queueSums_131 (m0_queueSums_19 n) x1 x2 x3 M6 else zgd (Nat.blt r3 10) (zbd (m2_countNow r3 M6) (fun r8 M8 => (if ((cg M6 0 0 6) + (x2 * (x1 - r8))) ≤ (cg M6 3 0 5) then zgd (Nat.blt r3 10 && true) (zgd (Nat.blt r3 10) (zbd (m8_isFull r3 M8) (fun r11 M11 => (if r11 = 0 then zgd (Nat.blt r3 10 && (Nat.blt r3 10 && true)) (zgd (Nat.blt r3 10) (zbv (m8_addSum r3 r3 M11) (fun M14 => zgd ((Nat.blt r3 10 && true) && true) (m0_queueSums_131 (m0_queueSums_19 n) x1 x2 x3 (cs M14 2 r3 14 (1 : Int32)))))) else m0_queueSums_131 (m0_queueSums_19 n) x1 x2 x3 M11)))) else m0_queueSums_131 (m0_queueSums_19 n) x1 x2 x3 M8))))))))))))
theorem m0_queueSums_19_ok {X : zX} {G : zG} (Hy : zHy X G q0_queueSums zcC 3 62 (none)) {M' : cM} (hE : zEnd X G (none) (zfC M')) : ∀ (n : Nat) (x1 : Int32) (x2 : Int32) (x3 : Int32) (M : cM), m0_queueSums_19 n x1 x2 x3 M = some M' → zGo (X, q0_queueSums, G) 0 0 (19, [(0, .inr (.inr (some (0, 0)))), (1, .inl x1), (2, .inl x2), (3, .inl x3)], [], zfC M) := by
  intro n
  induction n with
  | zero => intro x1 x2 x3 M h; cases h
  | succ n ih =>
    intro x1 x2 x3 M h
    unfold m0_queueSums_19 at h
    refine zblq Hy.1 Hy.2.1 [(.iload 3, 1), (.aload 0, 1), (.getfield 0, 3), (.multianewarray 3 4, 3)] (S' := (27, [(0, .inr (.inr (some (0, 0)))), (1, .inl x1), (2, .inl x2), (3, .inl x3)], [.inl (cg M 3 0 4), .inl x3], zfC M)) (b := true) (by decide +kernel) rfl rfl ?_
    refine zic_ge Hy.1 (off := 110) (tgt := 137) (by decide +kernel) (by decide) (fun hb22 => ?_) (fun hb22 => ?_)
    · replace h := zite_t h hb22
      cases h
      exact zret_v Hy.1 Hy.2.2 hE (by decide +kernel)
    · replace h := zite_f h hb22
      refine zblq Hy.1 Hy.2.1 [(.aload 0, 1), (.getfield 0, 3), (.iload 3, 1)] (S' := (35, [(0, .inr (.inr (some (0, 0)))), (1, .inl x1), (2, .inl x2), (3, .inl x3)], [.inl x3, .inr (.inr (some (3, 0)))], zfC M)) (b := true) (by decide +kernel) rfl rfl ?_
      obtain ⟨r3, M3, hc3, h⟩ := zbd_inv h
      refine zcallV Hy.1 (as := [.inl x3]) (st := []) (m3_of_met (zOK_G Hy.1) Hy.2.1 hc3) cw0_52 m3_of_in m3_of_se (by decide) (zhlv Hy.2.1 rfl) rfl (zroom Hy.2.2 ⟨by decide, by decide⟩) rfl (by decide +kernel) ⟨Nat.zero_le _, Nat.zero_le _⟩ ?_
      obtain ⟨hg4, h⟩ := zgd_inv h
      refine zblq Hy.1 Hy.2.1 [(.astore 4, 2), (.aload 4, 2), (.multianewarray 2 7, 3), (.iconst (-1), 1)] (S' := (46, [(0, .inr (.inr (some (0, 0)))), (1, .inl x1), (2, .inl x2), (3, .inl x3), (4, .inr (.inr (some (2, r3))))], [.inl (-1 : Int32), .inl (cg M3 2 r3 7)], zfC M3)) (b := Nat.blt r3 10 && true) (by decide +kernel) rfl hg4 ?_
      refine zic_eq Hy.1 (off := 85) (tgt := 131) (by decide +kernel) (by decide) (fun hb21 => ?_) (fun hb21 => ?_)
      · replace h := zite_t h hb21
        refine zGo_keep [0, 1, 2, 3] rfl ?_
        exact m0_queueSums_131_ok Hy hE ih x1 x2 x3 M3 h
      · replace h := zite_f h hb21
        refine zblq Hy.1 Hy.2.1 [(.aload 0, 1), (.multianewarray 0 8, 3), (.iload 3, 1)] (S' := (54, [(0, .inr (.inr (some (0, 0)))), (1, .inl x1), (2, .inl x2), (3, .inl x3), (4, .inr (.inr (some (2, r3))))], [.inl x3, .inl (cg M3 0 0 8)], zfC M3)) (b := true) (by decide +kernel) rfl rfl ?_
        obtain ⟨r5, M5, hc5, h⟩ := zbd_inv h
        refine zcallS Hy.1 (as := [.inl (cg M3 0 0 8), .inl x3]) (st := []) (m0_isIn_met (zOK_G Hy.1) Hy.2.1 hc5) cw0_87 m0_isIn_in rfl (zroom Hy.2.2 ⟨by decide, by decide⟩) rfl (by decide +kernel) ⟨Nat.zero_le _, Nat.zero_le _⟩ ?_
        refine zif_eq Hy.1 (off := 74) (tgt := 131) (by decide +kernel) (by decide) (fun hb20 => ?_) (fun hb20 => ?_)
        · replace h := zite_t h hb20
          refine zGo_keep [0, 1, 2, 3] rfl ?_
          exact m0_queueSums_131_ok Hy hE ih x1 x2 x3 M5 h
        · replace h := zite_f h hb20
          refine zblq Hy.1 Hy.2.1 [(.aload 4, 2)] (S' := (62, [(0, .inr (.inr (some (0, 0)))), (1, .inl x1), (2, .inl x2), (3, .inl x3), (4, .inr (.inr (some (2, r3))))], [.inr (.inr (some (2, r3)))], zfC M5)) (b := true) (by decide +kernel) rfl rfl ?_
          obtain ⟨hg7, h⟩ := zgd_inv h
          obtain ⟨r6, M6, hc6, h⟩ := zbd_inv h
          refine zcallV Hy.1 (as := []) (st := []) (m2_hasUnsaidSum_met (zOK_G Hy.1) Hy.2.1 hc6) cw0_118 m2_hasUnsaidSum_in m2_hasUnsaidSum_se (by decide) (zhlv Hy.2.1 hg7) rfl (zroom Hy.2.2 ⟨by decide, by decide⟩) rfl (by decide +kernel) ⟨Nat.zero_le _, Nat.zero_le _⟩ ?_
          refine zif_ne Hy.1 (off := 6) (tgt := 71) (by decide +kernel) (by decide) (fun hb19 => ?_) (fun hb19 => ?_)
          · replace h := zite_f h hb19
            refine zblq Hy.1 Hy.2.1 [(.aload 0, 1), (.getfield 0, 3), (.multianewarray 3 5, 3), (.aload 0, 1), (.multianewarray 0 6, 3), (.iload 2, 1), (.iload 1, 1), (.aload 4, 2)] (S' := (86, [(0, .inr (.inr (some (0, 0)))), (1, .inl x1), (2, .inl x2), (3, .inl x3), (4, .inr (.inr (some (2, r3))))], [.inr (.inr (some (2, r3))), .inl x1, .inl x2, .inl (cg M6 0 0 6), .inl (cg M6 3 0 5)], zfC M6)) (b := true) (by decide +kernel) rfl rfl ?_
            obtain ⟨hg9, h⟩ := zgd_inv h
            obtain ⟨r8, M8, hc8, h⟩ := zbd_inv h
            refine zcallV Hy.1 (as := []) (st := [.inl x1, .inl x2, .inl (cg M6 0 0 6), .inl (cg M6 3 0 5)]) (m2_countNow_met (zOK_G Hy.1) Hy.2.1 hc8) cw0_150 m2_countNow_in m2_countNow_se (by decide) (zhlv Hy.2.1 hg9) rfl (zroom Hy.2.2 ⟨by decide, by decide⟩) rfl (by decide +kernel) ⟨Nat.zero_le _, Nat.zero_le _⟩ ?_
            refine zblq Hy.1 Hy.2.1 [(.isub, 1), (.imul, 1), (.iadd, 1)] (S' := (92, [(0, .inr (.inr (some (0, 0)))), (1, .inl x1), (2, .inl x2), (3, .inl x3), (4, .inr (.inr (some (2, r3))))], [.inl ((cg M6 0 0 6) + (x2 * (x1 - r8))), .inl (cg M6 3 0 5)], zfC M8)) (b := true) (by decide +kernel) rfl rfl ?_
            refine zic_ge Hy.1 (off := 6) (tgt := 98) (by decide +kernel) (by decide) (fun hb18 => ?_) (fun hb18 => ?_)
            · replace h := zite_t h hb18
              obtain ⟨hg10, h⟩ := zgd_inv h
              refine zblq Hy.1 Hy.2.1 [(.aload 4, 2), (.getfield 215, 3)] (S' := (103, [(0, .inr (.inr (some (0, 0)))), (1, .inl x1), (2, .inl x2), (3, .inl x3), (4, .inr (.inr (some (2, r3))))], [.inr (.inr (some (8, r3)))], zfC M8)) (b := Nat.blt r3 10 && true) (by decide +kernel) rfl hg10 ?_
              obtain ⟨hg12, h⟩ := zgd_inv h
              obtain ⟨r11, M11, hc11, h⟩ := zbd_inv h
              refine zcallV Hy.1 (as := []) (st := []) (m8_isFull_met (zOK_G Hy.1) Hy.2.1 hc11) cw0_157 m8_isFull_in m8_isFull_se (by decide) (zhlv Hy.2.1 hg12) rfl (zroom Hy.2.2 ⟨by decide, by decide⟩) rfl (by decide +kernel) ⟨Nat.zero_le _, Nat.zero_le _⟩ ?_
              refine zif_eq Hy.1 (off := 6) (tgt := 112) (by decide +kernel) (by decide) (fun hb17 => ?_) (fun hb17 => ?_)
              · replace h := zite_t h hb17
                obtain ⟨hg13, h⟩ := zgd_inv h
                refine zblq Hy.1 Hy.2.1 [(.aload 4, 2), (.getfield 215, 3), (.aload 4, 2), (.getfield 213, 3)] (S' := (122, [(0, .inr (.inr (some (0, 0)))), (1, .inl x1), (2, .inl x2), (3, .inl x3), (4, .inr (.inr (some (2, r3))))], [.inr (.inr (some (9, r3))), .inr (.inr (some (8, r3)))], zfC M11)) (b := Nat.blt r3 10 && (Nat.blt r3 10 && true)) (by decide +kernel) rfl hg13 ?_
                obtain ⟨hg15, h⟩ := zgd_inv h
                obtain ⟨M14, hc14, h⟩ := zbv_inv h
                refine zcallV Hy.1 (as := [.inr (.inr (some (9, r3)))]) (st := []) (m8_addSum_met (zOK_G Hy.1) Hy.2.1 hc14) cw0_162 m8_addSum_in m8_addSum_se (by decide) (zhlv Hy.2.1 hg15) rfl (zroom Hy.2.2 ⟨by decide, by decide⟩) rfl (by decide +kernel) ⟨Nat.zero_le _, Nat.zero_le _⟩ ?_
                obtain ⟨hg16, h⟩ := zgd_inv h
                refine zblq Hy.1 Hy.2.1 [(.aload 4, 2), (.iconst 1, 1), (.invokedynamic 214, 3)] (S' := (131, [(0, .inr (.inr (some (0, 0)))), (1, .inl x1), (2, .inl x2), (3, .inl x3), (4, .inr (.inr (some (2, r3))))], [], zfC (cs M14 2 r3 14 (1 : Int32)))) (b := (Nat.blt r3 10 && true) && true) (by decide +kernel) rfl hg16 ?_
                refine zGo_keep [0, 1, 2, 3] rfl ?_
                exact m0_queueSums_131_ok Hy hE ih x1 x2 x3 (cs M14 2 r3 14 (1 : Int32)) h
              · replace h := zite_f h hb17
                refine zblq Hy.1 Hy.2.1 [(.ldc 131, 3)] (S' := (131, [(0, .inr (.inr (some (0, 0)))), (1, .inl x1), (2, .inl x2), (3, .inl x3), (4, .inr (.inr (some (2, r3))))], [], zfC M11)) (b := true) (by decide +kernel) rfl rfl ?_
                refine zGo_keep [0, 1, 2, 3] rfl ?_
                exact m0_queueSums_131_ok Hy hE ih x1 x2 x3 M11 h
            · replace h := zite_f h hb18
              refine zblq Hy.1 Hy.2.1 [(.ldc 131, 3)] (S' := (131, [(0, .inr (.inr (some (0, 0)))), (1, .inl x1), (2, .inl x2), (3, .inl x3), (4, .inr (.inr (some (2, r3))))], [], zfC M8)) (b := true) (by decide +kernel) rfl rfl ?_
              refine zGo_keep [0, 1, 2, 3] rfl ?_
              exact m0_queueSums_131_ok Hy hE ih x1 x2 x3 M8 h
          · replace h := zite_t h hb19
            refine zblq Hy.1 Hy.2.1 [(.ldc 131, 3)] (S' := (131, [(0, .inr (.inr (some (0, 0)))), (1, .inl x1), (2, .inl x2), (3, .inl x3), (4, .inr (.inr (some (2, r3))))], [], zfC M6)) (b := true) (by decide +kernel) rfl rfl ?_
            refine zGo_keep [0, 1, 2, 3] rfl ?_
            exact m0_queueSums_131_ok Hy hE ih x1 x2 x3 M6 h
def m0_queueSums  (M : cM) : Option cM := zbd (m3_deepest M) (fun r1 M1 => zbd (m3_setting (4 : Int32) M1) (fun r2 M2 => m0_queueSums_19 zfu r1 r2 (0 : Int32) M2))
theorem m0_queueSums_ok {X : zX} {G : zG} (Hy : zHy X G q0_queueSums zcC 3 62 (none)) {M' : cM} (hE : zEnd X G (none) (zfC M'))  (M : cM) (h : m0_queueSums M = some M') : zGo (X, q0_queueSums, G) 0 0 (0, [(0, .inr (.inr (some (0, 0))))], [], zfC M) := by
  unfold m0_queueSums at h
  refine zblq Hy.1 Hy.2.1 [(.aload 0, 1), (.getfield 0, 3)] (S' := (4, [(0, .inr (.inr (some (0, 0))))], [.inr (.inr (some (3, 0)))], zfC M)) (b := true) (by decide +kernel) rfl rfl ?_
  obtain ⟨r1, M1, hc1, h⟩ := zbd_inv h
  refine zcallV Hy.1 (as := []) (st := []) (m3_deepest_met (zOK_G Hy.1) Hy.2.1 hc1) cw0_144 m3_deepest_in m3_deepest_se (by decide) (zhlv Hy.2.1 rfl) rfl (zroom Hy.2.2 ⟨by decide, by decide⟩) rfl (by decide +kernel) ⟨Nat.zero_le _, Nat.zero_le _⟩ ?_
  refine zblq Hy.1 Hy.2.1 [(.istore 1, 1), (.aload 0, 1), (.getfield 0, 3), (.iconst 4, 1)] (S' := (13, [(0, .inr (.inr (some (0, 0)))), (1, .inl r1)], [.inl (4 : Int32), .inr (.inr (some (3, 0)))], zfC M1)) (b := true) (by decide +kernel) rfl rfl ?_
  obtain ⟨r2, M2, hc2, h⟩ := zbd_inv h
  refine zcallV Hy.1 (as := [.inl (4 : Int32)]) (st := []) (m3_setting_met (zOK_G Hy.1) Hy.2.1 hc2) cw0_108 m3_setting_in m3_setting_se (by decide) (zhlv Hy.2.1 rfl) rfl (zroom Hy.2.2 ⟨by decide, by decide⟩) rfl (by decide +kernel) ⟨Nat.zero_le _, Nat.zero_le _⟩ ?_
  refine zblq Hy.1 Hy.2.1 [(.istore 2, 1), (.iconst 0, 1), (.istore 3, 1)] (S' := (19, [(0, .inr (.inr (some (0, 0)))), (1, .inl r1), (2, .inl r2), (3, .inl (0 : Int32))], [], zfC M2)) (b := true) (by decide +kernel) rfl rfl ?_
  refine zGo_keep [0, 1, 2, 3] rfl ?_
  exact m0_queueSums_19_ok Hy hE zfu r1 r2 (0 : Int32) M2 h
theorem m0_queueSums_met {l : Launch} {G : zG} (hG : zGok G) (hcn : zgcn G = zcC)  {M : cM} {M' : cM} (h : m0_queueSums M = some M') : zMet l G yX0_queueSums cX0_queueSums 5 (none) 3 62 [.inr (.inr (some (0, 0)))] (zfC M) (none) (zfC M') :=
  zMet_of hG tbX0_ok rfl (by decide +kernel) (Nat.le_of_ble_eq_true rfl) (fun X _ Z hA hE => m0_queueSums_ok ⟨Z, hcn, hA⟩ hE M h)
abbrev q0_speak : ByteArray × Nat × String × zT := (cX0_speak, 3, RX0, tbX0)
def m0_speak_94 (k7 : Int32 → cM → Option cM) (x1 : Int32) (M : cM) : Option cM := k7 (x1 + (1 : Int32)) M
theorem m0_speak_94_ok {X : zX} {G : zG} (Hy : zHy X G q0_speak zcC 2 42 (none)) {M' : cM} (hE : zEnd X G (none) (zfC M')) {k7 : Int32 → cM → Option cM} (hk7 : ∀ (x1 : Int32) (M : cM), k7 x1 M = some M' → zGo (X, q0_speak, G) 0 0 (7, [(0, .inr (.inr (some (0, 0)))), (1, .inl x1)], [], zfC M)) (x1 : Int32) (M : cM) (h : m0_speak_94 k7 x1 M = some M') : zGo (X, q0_speak, G) 0 0 (94, [(0, .inr (.inr (some (0, 0)))), (1, .inl x1)], [], zfC M) := by
  unfold m0_speak_94 at h
  refine zblq Hy.1 Hy.2.1 [(.iinc 1 1, 3), (.ldc 7, 3)] (S' := (7, [(0, .inr (.inr (some (0, 0)))), (1, .inl (x1 + (1 : Int32)))], [], zfC M)) (b := true) (by decide +kernel) rfl rfl ?_
  refine zGo_keep [0, 1] rfl ?_
  exact hk7 (x1 + (1 : Int32)) M h
def m0_speak_7 : Nat → Int32 → cM → Option cM
  | 0, _, _ => none
  | n + 1, x1, M => (if (cg M 3 0 4) ≤ x1 then some M else zbd (m3_of x1 M) (fun r1 M1 => zgd (Nat.blt r1 10 && true) ((if (cg M1 2 r1 7) = (-1 : Int32) then m0_speak_94 (m0_speak_7 n) x1 M1 else zbd (m0_isIn (cg M1 0 0 8) x1 M1) (fun r3 M3 => (if r3 = 0 then m0_speak_94 (m0_speak_7 n) x1 M3 else zgd (Nat.blt r1 10 && (Nat.blt r1 10 && true)) ((if (cg M3 8 r1 2) = 0 then m0_speak_94 (m0_speak_7 n) x1 M3 else zbd (m3_setting (2 : Int32) (cs M3 0 0 9 ((cg M3 0 0 9) ||| (zshl (1 : Int32) x1)))) (fun r5 M5 => zgd (Nat.blt r1 10) (zbv (m2_spend r1 r5 M5) (fun M6 => zgd (zin (7 : Int32) 8 && (zin (7 : Int32) 8 && true)) (m0_speak_94 (m0_speak_7 n) x1 (cs M6 103 0 (nx (7 : Int32)) ((cg M6 103 0 (nx (7 : Int32))) + (1 : Int32)))))))))))))))
theorem m0_speak_7_ok {X : zX} {G : zG} (Hy : zHy X G q0_speak zcC 2 42 (none)) {M' : cM} (hE : zEnd X G (none) (zfC M')) : ∀ (n : Nat) (x1 : Int32) (M : cM), m0_speak_7 n x1 M = some M' → zGo (X, q0_speak, G) 0 0 (7, [(0, .inr (.inr (some (0, 0)))), (1, .inl x1)], [], zfC M) := by
  intro n
  induction n with
  | zero => intro x1 M h; cases h
  | succ n ih =>
    intro x1 M h
    unfold m0_speak_7 at h
    refine zblq Hy.1 Hy.2.1 [(.iload 1, 1), (.aload 0, 1), (.getfield 0, 3), (.multianewarray 3 4, 3)] (S' := (15, [(0, .inr (.inr (some (0, 0)))), (1, .inl x1)], [.inl (cg M 3 0 4), .inl x1], zfC M)) (b := true) (by decide +kernel) rfl rfl ?_
    refine zic_ge Hy.1 (off := 85) (tgt := 100) (by decide +kernel) (by decide) (fun hb12 => ?_) (fun hb12 => ?_)
    · replace h := zite_t h hb12
      cases h
      exact zret_v Hy.1 Hy.2.2 hE (by decide +kernel)
    · replace h := zite_f h hb12
      refine zblq Hy.1 Hy.2.1 [(.aload 0, 1), (.getfield 0, 3), (.iload 1, 1)] (S' := (23, [(0, .inr (.inr (some (0, 0)))), (1, .inl x1)], [.inl x1, .inr (.inr (some (3, 0)))], zfC M)) (b := true) (by decide +kernel) rfl rfl ?_
      obtain ⟨r1, M1, hc1, h⟩ := zbd_inv h
      refine zcallV Hy.1 (as := [.inl x1]) (st := []) (m3_of_met (zOK_G Hy.1) Hy.2.1 hc1) cw0_52 m3_of_in m3_of_se (by decide) (zhlv Hy.2.1 rfl) rfl (zroom Hy.2.2 ⟨by decide, by decide⟩) rfl (by decide +kernel) ⟨Nat.zero_le _, Nat.zero_le _⟩ ?_
      obtain ⟨hg2, h⟩ := zgd_inv h
      refine zblq Hy.1 Hy.2.1 [(.astore 2, 1), (.aload 2, 1), (.multianewarray 2 7, 3), (.iconst (-1), 1)] (S' := (32, [(0, .inr (.inr (some (0, 0)))), (1, .inl x1), (2, .inr (.inr (some (2, r1))))], [.inl (-1 : Int32), .inl (cg M1 2 r1 7)], zfC M1)) (b := Nat.blt r1 10 && true) (by decide +kernel) rfl hg2 ?_
      refine zic_eq Hy.1 (off := 62) (tgt := 94) (by decide +kernel) (by decide) (fun hb11 => ?_) (fun hb11 => ?_)
      · replace h := zite_t h hb11
        refine zGo_keep [0, 1] rfl ?_
        exact m0_speak_94_ok Hy hE ih x1 M1 h
      · replace h := zite_f h hb11
        refine zblq Hy.1 Hy.2.1 [(.aload 0, 1), (.multianewarray 0 8, 3), (.iload 1, 1)] (S' := (40, [(0, .inr (.inr (some (0, 0)))), (1, .inl x1), (2, .inr (.inr (some (2, r1))))], [.inl x1, .inl (cg M1 0 0 8)], zfC M1)) (b := true) (by decide +kernel) rfl rfl ?_
        obtain ⟨r3, M3, hc3, h⟩ := zbd_inv h
        refine zcallS Hy.1 (as := [.inl (cg M1 0 0 8), .inl x1]) (st := []) (m0_isIn_met (zOK_G Hy.1) Hy.2.1 hc3) cw0_87 m0_isIn_in rfl (zroom Hy.2.2 ⟨by decide, by decide⟩) rfl (by decide +kernel) ⟨Nat.zero_le _, Nat.zero_le _⟩ ?_
        refine zif_eq Hy.1 (off := 51) (tgt := 94) (by decide +kernel) (by decide) (fun hb10 => ?_) (fun hb10 => ?_)
        · replace h := zite_t h hb10
          refine zGo_keep [0, 1] rfl ?_
          exact m0_speak_94_ok Hy hE ih x1 M3 h
        · replace h := zite_f h hb10
          obtain ⟨hg4, h⟩ := zgd_inv h
          refine zblq Hy.1 Hy.2.1 [(.aload 2, 1), (.getfield 215, 3), (.multianewarray 8 2, 3)] (S' := (53, [(0, .inr (.inr (some (0, 0)))), (1, .inl x1), (2, .inr (.inr (some (2, r1))))], [.inl (cg M3 8 r1 2)], zfC M3)) (b := Nat.blt r1 10 && (Nat.blt r1 10 && true)) (by decide +kernel) rfl hg4 ?_
          refine zif_ne Hy.1 (off := 6) (tgt := 59) (by decide +kernel) (by decide) (fun hb9 => ?_) (fun hb9 => ?_)
          · replace h := zite_f h hb9
            refine zblq Hy.1 Hy.2.1 [(.aload 0, 1), (.dup, 1), (.multianewarray 0 9, 3), (.iconst 1, 1), (.iload 1, 1), (.ishl, 1), (.ior, 1), (.invokeinterface 0 9, 3), (.aload 2, 1), (.aload 0, 1), (.getfield 0, 3), (.iconst 2, 1)] (S' := (77, [(0, .inr (.inr (some (0, 0)))), (1, .inl x1), (2, .inr (.inr (some (2, r1))))], [.inl (2 : Int32), .inr (.inr (some (3, 0))), .inr (.inr (some (2, r1)))], zfC (cs M3 0 0 9 ((cg M3 0 0 9) ||| (zshl (1 : Int32) x1))))) (b := true) (by decide +kernel) rfl rfl ?_
            obtain ⟨r5, M5, hc5, h⟩ := zbd_inv h
            refine zcallV Hy.1 (as := [.inl (2 : Int32)]) (st := [.inr (.inr (some (2, r1)))]) (m3_setting_met (zOK_G Hy.1) Hy.2.1 hc5) cw0_108 m3_setting_in m3_setting_se (by decide) (zhlv Hy.2.1 rfl) rfl (zroom Hy.2.2 ⟨by decide, by decide⟩) rfl (by decide +kernel) ⟨Nat.zero_le _, Nat.zero_le _⟩ ?_
            obtain ⟨hg7, h⟩ := zgd_inv h
            obtain ⟨M6, hc6, h⟩ := zbv_inv h
            refine zcallV Hy.1 (as := [.inl r5]) (st := []) (m2_spend_met (zOK_G Hy.1) Hy.2.1 hc6) cw0_112 m2_spend_in m2_spend_se (by decide) (zhlv Hy.2.1 hg7) rfl (zroom Hy.2.2 ⟨by decide, by decide⟩) rfl (by decide +kernel) ⟨Nat.zero_le _, Nat.zero_le _⟩ ?_
            obtain ⟨hg8, h⟩ := zgd_inv h
            refine zblq Hy.1 Hy.2.1 [(.aload 0, 1), (.getfield 3, 3), (.iconst 7, 2), (.dup2, 1), (.iaload, 1), (.iconst 1, 1), (.iadd, 1), (.iastore, 1)] (S' := (94, [(0, .inr (.inr (some (0, 0)))), (1, .inl x1), (2, .inr (.inr (some (2, r1))))], [], zfC (cs M6 103 0 (nx (7 : Int32)) ((cg M6 103 0 (nx (7 : Int32))) + (1 : Int32))))) (b := zin (7 : Int32) 8 && (zin (7 : Int32) 8 && true)) (by decide +kernel) rfl hg8 ?_
            refine zGo_keep [0, 1] rfl ?_
            exact m0_speak_94_ok Hy hE ih x1 (cs M6 103 0 (nx (7 : Int32)) ((cg M6 103 0 (nx (7 : Int32))) + (1 : Int32))) h
          · replace h := zite_t h hb9
            refine zblq Hy.1 Hy.2.1 [(.ldc 94, 3)] (S' := (94, [(0, .inr (.inr (some (0, 0)))), (1, .inl x1), (2, .inr (.inr (some (2, r1))))], [], zfC M3)) (b := true) (by decide +kernel) rfl rfl ?_
            refine zGo_keep [0, 1] rfl ?_
            exact m0_speak_94_ok Hy hE ih x1 M3 h
def m0_speak  (M : cM) : Option cM := m0_speak_7 zfu (0 : Int32) (cs M 0 0 9 (0 : Int32))
theorem m0_speak_ok {X : zX} {G : zG} (Hy : zHy X G q0_speak zcC 2 42 (none)) {M' : cM} (hE : zEnd X G (none) (zfC M'))  (M : cM) (h : m0_speak M = some M') : zGo (X, q0_speak, G) 0 0 (0, [(0, .inr (.inr (some (0, 0))))], [], zfC M) := by
  unfold m0_speak at h
  refine zblq Hy.1 Hy.2.1 [(.aload 0, 1), (.iconst 0, 1), (.invokeinterface 0 9, 3), (.iconst 0, 1), (.istore 1, 1)] (S' := (7, [(0, .inr (.inr (some (0, 0)))), (1, .inl (0 : Int32))], [], zfC (cs M 0 0 9 (0 : Int32)))) (b := true) (by decide +kernel) rfl rfl ?_
  refine zGo_keep [0, 1] rfl ?_
  exact m0_speak_7_ok Hy hE zfu (0 : Int32) (cs M 0 0 9 (0 : Int32)) h
theorem m0_speak_met {l : Launch} {G : zG} (hG : zGok G) (hcn : zgcn G = zcC)  {M : cM} {M' : cM} (h : m0_speak M = some M') : zMet l G yX0_speak cX0_speak 3 (none) 2 42 [.inr (.inr (some (0, 0)))] (zfC M) (none) (zfC M') :=
  zMet_of hG tbX0_ok rfl (by decide +kernel) (Nat.le_of_ble_eq_true rfl) (fun X _ Z hA hE => m0_speak_ok ⟨Z, hcn, hA⟩ hE M h)
