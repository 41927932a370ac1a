abbrev q4_fewestSettling : ByteArray × Nat × String × zT := (cX4_fewestSettling, 4, RX4, tbX4)
def m4_fewestSettling_105 (k60 : Int32 → Int32 → cM → Option (Int32 × cM)) (k68 : Int32 → Int32 → Int32 → cM → Option (Int32 × cM)) (x1 : Int32) (x2 : Int32) (x3 : Int32) (M : cM) : Option (Int32 × cM) := k68 x1 x2 (x3 + (1 : Int32)) M
theorem m4_fewestSettling_105_ok {X : zX} {G : zG} (Hy : zHy X G q4_fewestSettling zcC 5 117 (some .int)) {r : Int32} {M' : cM} (hE : zEnd X G (some (.inl r)) (zfC M')) {k60 : Int32 → Int32 → cM → Option (Int32 × cM)} (hk60 : ∀ (x1 : Int32) (x2 : Int32) (M : cM), k60 x1 x2 M = some (r, M') → zGo (X, q4_fewestSettling, G) 0 0 (60, [(0, .inr (.inr (some (4, 0)))), (1, .inl x1), (2, .inl x2)], [], zfC M)) {k68 : Int32 → Int32 → Int32 → cM → Option (Int32 × cM)} (hk68 : ∀ (x1 : Int32) (x2 : Int32) (x3 : Int32) (M : cM), k68 x1 x2 x3 M = some (r, M') → zGo (X, q4_fewestSettling, G) 0 0 (68, [(0, .inr (.inr (some (4, 0)))), (1, .inl x1), (2, .inl x2), (3, .inl x3)], [], zfC M)) (x1 : Int32) (x2 : Int32) (x3 : Int32) (M : cM) (h : m4_fewestSettling_105 k60 k68 x1 x2 x3 M = some (r, M')) : zGo (X, q4_fewestSettling, G) 0 0 (105, [(0, .inr (.inr (some (4, 0)))), (1, .inl x1), (2, .inl x2), (3, .inl x3)], [], zfC M) := by
  unfold m4_fewestSettling_105 at h
  refine zblq Hy.1 Hy.2.1 [(.iinc 3 1, 3), (.ldc 68, 3)] (S' := (68, [(0, .inr (.inr (some (4, 0)))), (1, .inl x1), (2, .inl x2), (3, .inl (x3 + (1 : Int32)))], [], zfC M)) (b := true) (by decide +kernel) rfl rfl ?_
  refine zGo_keep [0, 1, 2, 3] rfl ?_
  exact hk68 x1 x2 (x3 + (1 : Int32)) M h
def m4_fewestSettling_68 (k60 : Int32 → Int32 → cM → Option (Int32 × cM)) : Nat → Int32 → Int32 → Int32 → cM → Option (Int32 × cM)
  | 0, _, _, _, _ => none
  | n + 1, x1, x2, x3, M => (if (64 : Int32) ≤ x3 then k60 x1 (x2 + (1 : Int32)) M else zbd (mJ6_bitCount x3 M) (fun r2 M2 => (if r2 = x2 then (if (x3 &&& (cg M2 4 0 2)) = 0 then zbd (m4_isSettledBy x3 x1 M2) (fun r3 M3 => (if r3 = 0 then m4_fewestSettling_105 k60 (m4_fewestSettling_68 k60 n) x1 x2 x3 M3 else some (x3, M3))) else m4_fewestSettling_105 k60 (m4_fewestSettling_68 k60 n) x1 x2 x3 M2) else m4_fewestSettling_105 k60 (m4_fewestSettling_68 k60 n) x1 x2 x3 M2)))
theorem m4_fewestSettling_68_ok {X : zX} {G : zG} (Hy : zHy X G q4_fewestSettling zcC 5 117 (some .int)) {r : Int32} {M' : cM} (hE : zEnd X G (some (.inl r)) (zfC M')) {k60 : Int32 → Int32 → cM → Option (Int32 × cM)} (hk60 : ∀ (x1 : Int32) (x2 : Int32) (M : cM), k60 x1 x2 M = some (r, M') → zGo (X, q4_fewestSettling, G) 0 0 (60, [(0, .inr (.inr (some (4, 0)))), (1, .inl x1), (2, .inl x2)], [], zfC M)) : ∀ (n : Nat) (x1 : Int32) (x2 : Int32) (x3 : Int32) (M : cM), m4_fewestSettling_68 k60 n x1 x2 x3 M = some (r, M') → zGo (X, q4_fewestSettling, G) 0 0 (68, [(0, .inr (.inr (some (4, 0)))), (1, .inl x1), (2, .inl x2), (3, .inl x3)], [], zfC M) := by
  intro n
  induction n with
  | zero => intro x1 x2 x3 M h; cases h
  | succ n ih =>
    intro x1 x2 x3 M h
    unfold m4_fewestSettling_68 at h
    refine zblq Hy.1 Hy.2.1 [(.iload 3, 1), (.iconst 64, 2)] (S' := (71, [(0, .inr (.inr (some (4, 0)))), (1, .inl x1), (2, .inl x2), (3, .inl x3)], [.inl (64 : Int32), .inl x3], zfC M)) (b := true) (by decide +kernel) rfl rfl ?_
    refine zic_ge Hy.1 (off := 40) (tgt := 111) (by decide +kernel) (by decide) (fun hb7 => ?_) (fun hb7 => ?_)
    · replace h := zite_t h hb7
      refine zblq Hy.1 Hy.2.1 [(.iinc 2 1, 3), (.ldc 60, 3)] (S' := (60, [(0, .inr (.inr (some (4, 0)))), (1, .inl x1), (2, .inl (x2 + (1 : Int32))), (3, .inl x3)], [], zfC M)) (b := true) (by decide +kernel) rfl rfl ?_
      refine zGo_keep [0, 1, 2] rfl ?_
      exact hk60 x1 (x2 + (1 : Int32)) M h
    · replace h := zite_f h hb7
      refine zblq Hy.1 Hy.2.1 [(.iload 3, 1)] (S' := (75, [(0, .inr (.inr (some (4, 0)))), (1, .inl x1), (2, .inl x2), (3, .inl x3)], [.inl x3], zfC M)) (b := true) (by decide +kernel) rfl rfl ?_
      obtain ⟨r2, M2, hc2, h⟩ := zbd_inv h
      refine zcallS Hy.1 (as := [.inl x3]) (st := []) (mJ6_bitCount_met (zOK_G Hy.1) Hy.2.1 hc2) cw4_130 mJ6_bitCount_in rfl (zroom Hy.2.2 ⟨by decide, by decide⟩) rfl (by decide +kernel) ⟨Nat.zero_le _, Nat.zero_le _⟩ ?_
      refine zblq Hy.1 Hy.2.1 [(.iload 2, 1)] (S' := (79, [(0, .inr (.inr (some (4, 0)))), (1, .inl x1), (2, .inl x2), (3, .inl x3)], [.inl x2, .inl r2], zfC M2)) (b := true) (by decide +kernel) rfl rfl ?_
      refine zic_ne Hy.1 (off := 26) (tgt := 105) (by decide +kernel) (by decide) (fun hb6 => ?_) (fun hb6 => ?_)
      · replace h := zite_f h hb6
        refine zGo_keep [0, 1, 2, 3] rfl ?_
        exact m4_fewestSettling_105_ok Hy hE hk60 ih x1 x2 x3 M2 h
      · replace h := zite_t h hb6
        refine zblq Hy.1 Hy.2.1 [(.iload 3, 1), (.aload 0, 1), (.multianewarray 4 2, 3), (.iand, 1)] (S' := (88, [(0, .inr (.inr (some (4, 0)))), (1, .inl x1), (2, .inl x2), (3, .inl x3)], [.inl (x3 &&& (cg M2 4 0 2))], zfC M2)) (b := true) (by decide +kernel) rfl rfl ?_
        refine zif_eq Hy.1 (off := 6) (tgt := 94) (by decide +kernel) (by decide) (fun hb5 => ?_) (fun hb5 => ?_)
        · replace h := zite_t h hb5
          refine zblq Hy.1 Hy.2.1 [(.aload 0, 1), (.iload 3, 1), (.iload 1, 1)] (S' := (97, [(0, .inr (.inr (some (4, 0)))), (1, .inl x1), (2, .inl x2), (3, .inl x3)], [.inl x1, .inl x3, .inr (.inr (some (4, 0)))], zfC M2)) (b := true) (by decide +kernel) rfl rfl ?_
          obtain ⟨r3, M3, hc3, h⟩ := zbd_inv h
          refine zcallV Hy.1 (as := [.inl x3, .inl x1]) (st := []) (m4_isSettledBy_met (zOK_G Hy.1) Hy.2.1 hc3) cw4_141 m4_isSettledBy_in m4_isSettledBy_se (by decide) (zhlv Hy.2.1 rfl) rfl (zroom Hy.2.2 ⟨by decide, by decide⟩) rfl (by decide +kernel) ⟨Nat.zero_le _, Nat.zero_le _⟩ ?_
          refine zif_eq Hy.1 (off := 5) (tgt := 105) (by decide +kernel) (by decide) (fun hb4 => ?_) (fun hb4 => ?_)
          · replace h := zite_t h hb4
            refine zGo_keep [0, 1, 2, 3] rfl ?_
            exact m4_fewestSettling_105_ok Hy hE hk60 ih x1 x2 x3 M3 h
          · replace h := zite_f h hb4
            refine zblq Hy.1 Hy.2.1 [(.iload 3, 1)] (S' := (104, [(0, .inr (.inr (some (4, 0)))), (1, .inl x1), (2, .inl x2), (3, .inl x3)], [.inl x3], zfC M3)) (b := true) (by decide +kernel) rfl rfl ?_
            cases h
            exact zret_i Hy.1 Hy.2.2 hE (by decide +kernel)
        · replace h := zite_f h hb5
          refine zblq Hy.1 Hy.2.1 [(.ldc 105, 3)] (S' := (105, [(0, .inr (.inr (some (4, 0)))), (1, .inl x1), (2, .inl x2), (3, .inl x3)], [], zfC M2)) (b := true) (by decide +kernel) rfl rfl ?_
          refine zGo_keep [0, 1, 2, 3] rfl ?_
          exact m4_fewestSettling_105_ok Hy hE hk60 ih x1 x2 x3 M2 h
def m4_fewestSettling_60 : Nat → Int32 → Int32 → cM → Option (Int32 × cM)
  | 0, _, _, _ => none
  | n + 1, x1, x2, M => (if (6 : Int32) < x2 then some ((-1 : Int32), M) else m4_fewestSettling_68 (m4_fewestSettling_60 n) zfu x1 x2 (0 : Int32) M)
theorem m4_fewestSettling_60_ok {X : zX} {G : zG} (Hy : zHy X G q4_fewestSettling zcC 5 117 (some .int)) {r : Int32} {M' : cM} (hE : zEnd X G (some (.inl r)) (zfC M')) : ∀ (n : Nat) (x1 : Int32) (x2 : Int32) (M : cM), m4_fewestSettling_60 n x1 x2 M = some (r, M') → zGo (X, q4_fewestSettling, G) 0 0 (60, [(0, .inr (.inr (some (4, 0)))), (1, .inl x1), (2, .inl x2)], [], zfC M) := by
  intro n
  induction n with
  | zero => intro x1 x2 M h; cases h
  | succ n ih =>
    intro x1 x2 M h
    unfold m4_fewestSettling_60 at h
    refine zblq Hy.1 Hy.2.1 [(.iload 2, 1), (.iconst 6, 2)] (S' := (63, [(0, .inr (.inr (some (4, 0)))), (1, .inl x1), (2, .inl x2)], [.inl (6 : Int32), .inl x2], zfC M)) (b := true) (by decide +kernel) rfl rfl ?_
    refine zic_gt Hy.1 (off := 54) (tgt := 117) (by decide +kernel) (by decide) (fun hb8 => ?_) (fun hb8 => ?_)
    · replace h := zite_t h hb8
      refine zblq Hy.1 Hy.2.1 [(.iconst (-1), 1)] (S' := (118, [(0, .inr (.inr (some (4, 0)))), (1, .inl x1), (2, .inl x2)], [.inl (-1 : Int32)], zfC M)) (b := true) (by decide +kernel) rfl rfl ?_
      cases h
      exact zret_i Hy.1 Hy.2.2 hE (by decide +kernel)
    · replace h := zite_f h hb8
      refine zblq Hy.1 Hy.2.1 [(.iconst 0, 1), (.istore 3, 1)] (S' := (68, [(0, .inr (.inr (some (4, 0)))), (1, .inl x1), (2, .inl x2), (3, .inl (0 : Int32))], [], zfC M)) (b := true) (by decide +kernel) rfl rfl ?_
      refine zGo_keep [0, 1, 2, 3] rfl ?_
      exact m4_fewestSettling_68_ok Hy hE ih zfu x1 x2 (0 : Int32) M h
def m4_fewestSettling_58 (x1 : Int32) (M : cM) : Option (Int32 × cM) := m4_fewestSettling_60 zfu x1 (0 : Int32) M
theorem m4_fewestSettling_58_ok {X : zX} {G : zG} (Hy : zHy X G q4_fewestSettling zcC 5 117 (some .int)) {r : Int32} {M' : cM} (hE : zEnd X G (some (.inl r)) (zfC M')) (x1 : Int32) (M : cM) (h : m4_fewestSettling_58 x1 M = some (r, M')) : zGo (X, q4_fewestSettling, G) 0 0 (58, [(0, .inr (.inr (some (4, 0)))), (1, .inl x1)], [], zfC M) := by
  unfold m4_fewestSettling_58 at h
  refine zblq Hy.1 Hy.2.1 [(.iconst 0, 1), (.istore 2, 1)] (S' := (60, [(0, .inr (.inr (some (4, 0)))), (1, .inl x1), (2, .inl (0 : Int32))], [], zfC M)) (b := true) (by decide +kernel) rfl rfl ?_
  refine zGo_keep [0, 1, 2] rfl ?_
  exact m4_fewestSettling_60_ok Hy hE zfu x1 (0 : Int32) M h
def m4_fewestSettling_50 (k7 : Int32 → Int32 → cM → Option (Int32 × cM)) (x1 : Int32) (x2 : Int32) (t1 : Int32) (t2 : Int32) (t3 : Int32) (M : cM) : Option (Int32 × cM) := zgd (zin t1 7776 && true) (k7 x1 (x2 + (1 : Int32)) (cs M 510 0 (nx t1) (t2 ||| t3)))
theorem m4_fewestSettling_50_ok {X : zX} {G : zG} (Hy : zHy X G q4_fewestSettling zcC 5 117 (some .int)) {r : Int32} {M' : cM} (hE : zEnd X G (some (.inl r)) (zfC M')) {k7 : Int32 → Int32 → cM → Option (Int32 × cM)} (hk7 : ∀ (x1 : Int32) (x2 : Int32) (M : cM), k7 x1 x2 M = some (r, M') → zGo (X, q4_fewestSettling, G) 0 0 (7, [(0, .inr (.inr (some (4, 0)))), (1, .inl x1), (2, .inl x2)], [], zfC M)) (x1 : Int32) (x2 : Int32) (t1 : Int32) (t2 : Int32) (t3 : Int32) (M : cM) (h : m4_fewestSettling_50 k7 x1 x2 t1 t2 t3 M = some (r, M')) : zGo (X, q4_fewestSettling, G) 0 0 (50, [(0, .inr (.inr (some (4, 0)))), (1, .inl x1), (2, .inl x2)], [.inl t3, .inl t2, .inl t1, .inr (.inr (some (510, 0)))], zfC M) := by
  unfold m4_fewestSettling_50 at h
  obtain ⟨hg11, h⟩ := zgd_inv h
  refine zblq Hy.1 Hy.2.1 [(.ior, 1), (.iastore, 1), (.iinc 2 1, 3), (.ldc 7, 3)] (S' := (7, [(0, .inr (.inr (some (4, 0)))), (1, .inl x1), (2, .inl (x2 + (1 : Int32)))], [], zfC (cs M 510 0 (nx t1) (t2 ||| t3)))) (b := zin t1 7776 && true) (by decide +kernel) rfl hg11 ?_
  refine zGo_keep [0, 1, 2] rfl ?_
  exact hk7 x1 (x2 + (1 : Int32)) (cs M 510 0 (nx t1) (t2 ||| t3)) h
def m4_fewestSettling_7 : Nat → Int32 → Int32 → cM → Option (Int32 × cM)
  | 0, _, _, _ => none
  | n + 1, x1, x2, M => (if x1 ≤ x2 then m4_fewestSettling_58 x1 M else (if (7776 : Int32) ≤ x2 then m4_fewestSettling_58 x1 M else zgd (zin x2 7776 && (zin x2 7776 && true)) (zbd (m4_isSo (cg M 510 0 (nx x2)) M) (fun r10 M10 => (if r10 = 0 then m4_fewestSettling_50 (m4_fewestSettling_7 n) x1 x2 x2 (zshl (cg M 510 0 (nx x2)) (1 : Int32)) (0 : Int32) M10 else m4_fewestSettling_50 (m4_fewestSettling_7 n) x1 x2 x2 (zshl (cg M 510 0 (nx x2)) (1 : Int32)) (1 : Int32) M10)))))
theorem m4_fewestSettling_7_ok {X : zX} {G : zG} (Hy : zHy X G q4_fewestSettling zcC 5 117 (some .int)) {r : Int32} {M' : cM} (hE : zEnd X G (some (.inl r)) (zfC M')) : ∀ (n : Nat) (x1 : Int32) (x2 : Int32) (M : cM), m4_fewestSettling_7 n x1 x2 M = some (r, M') → zGo (X, q4_fewestSettling, G) 0 0 (7, [(0, .inr (.inr (some (4, 0)))), (1, .inl x1), (2, .inl x2)], [], zfC M) := by
  intro n
  induction n with
  | zero => intro x1 x2 M h; cases h
  | succ n ih =>
    intro x1 x2 M h
    unfold m4_fewestSettling_7 at h
    refine zblq Hy.1 Hy.2.1 [(.iload 2, 1), (.iload 1, 1)] (S' := (9, [(0, .inr (.inr (some (4, 0)))), (1, .inl x1), (2, .inl x2)], [.inl x1, .inl x2], zfC M)) (b := true) (by decide +kernel) rfl rfl ?_
    refine zic_ge Hy.1 (off := 49) (tgt := 58) (by decide +kernel) (by decide) (fun hb14 => ?_) (fun hb14 => ?_)
    · replace h := zite_t h hb14
      refine zGo_keep [0, 1] rfl ?_
      exact m4_fewestSettling_58_ok Hy hE x1 M h
    · replace h := zite_f h hb14
      refine zblq Hy.1 Hy.2.1 [(.iload 2, 1), (.iconst 7776, 3)] (S' := (16, [(0, .inr (.inr (some (4, 0)))), (1, .inl x1), (2, .inl x2)], [.inl (7776 : Int32), .inl x2], zfC M)) (b := true) (by decide +kernel) rfl rfl ?_
      refine zic_ge Hy.1 (off := 42) (tgt := 58) (by decide +kernel) (by decide) (fun hb13 => ?_) (fun hb13 => ?_)
      · replace h := zite_t h hb13
        refine zGo_keep [0, 1] rfl ?_
        exact m4_fewestSettling_58_ok Hy hE x1 M h
      · replace h := zite_f h hb13
        obtain ⟨hg9, h⟩ := zgd_inv h
        refine zblq Hy.1 Hy.2.1 [(.aload 0, 1), (.getfield 410, 3), (.iload 2, 1), (.aload 0, 1), (.getfield 410, 3), (.iload 2, 1), (.iaload, 1), (.iconst 1, 1), (.ishl, 1), (.aload 0, 1), (.aload 0, 1), (.getfield 410, 3), (.iload 2, 1), (.iaload, 1)] (S' := (39, [(0, .inr (.inr (some (4, 0)))), (1, .inl x1), (2, .inl x2)], [.inl (cg M 510 0 (nx x2)), .inr (.inr (some (4, 0))), .inl (zshl (cg M 510 0 (nx x2)) (1 : Int32)), .inl x2, .inr (.inr (some (510, 0)))], zfC M)) (b := zin x2 7776 && (zin x2 7776 && true)) (by decide +kernel) rfl hg9 ?_
        obtain ⟨r10, M10, hc10, h⟩ := zbd_inv h
        refine zcallV Hy.1 (as := [.inl (cg M 510 0 (nx x2))]) (st := [.inl (zshl (cg M 510 0 (nx x2)) (1 : Int32)), .inl x2, .inr (.inr (some (510, 0)))]) (m4_isSo_met (zOK_G Hy.1) Hy.2.1 hc10) cw4_127 m4_isSo_in m4_isSo_se (by decide) (zhlv Hy.2.1 rfl) rfl (zroom Hy.2.2 ⟨by decide, by decide⟩) rfl (by decide +kernel) ⟨Nat.zero_le _, Nat.zero_le _⟩ ?_
        refine zif_eq Hy.1 (off := 7) (tgt := 49) (by decide +kernel) (by decide) (fun hb12 => ?_) (fun hb12 => ?_)
        · replace h := zite_t h hb12
          refine zblq Hy.1 Hy.2.1 [(.iconst 0, 1)] (S' := (50, [(0, .inr (.inr (some (4, 0)))), (1, .inl x1), (2, .inl x2)], [.inl (0 : Int32), .inl (zshl (cg M 510 0 (nx x2)) (1 : Int32)), .inl x2, .inr (.inr (some (510, 0)))], zfC M10)) (b := true) (by decide +kernel) rfl rfl ?_
          refine zGo_keep [0, 1, 2] rfl ?_
          exact m4_fewestSettling_50_ok Hy hE ih x1 x2 x2 (zshl (cg M 510 0 (nx x2)) (1 : Int32)) (0 : Int32) M10 h
        · replace h := zite_f h hb12
          refine zblq Hy.1 Hy.2.1 [(.iconst 1, 1), (.ldc 50, 3)] (S' := (50, [(0, .inr (.inr (some (4, 0)))), (1, .inl x1), (2, .inl x2)], [.inl (1 : Int32), .inl (zshl (cg M 510 0 (nx x2)) (1 : Int32)), .inl x2, .inr (.inr (some (510, 0)))], zfC M10)) (b := true) (by decide +kernel) rfl rfl ?_
          refine zGo_keep [0, 1, 2] rfl ?_
          exact m4_fewestSettling_50_ok Hy hE ih x1 x2 x2 (zshl (cg M 510 0 (nx x2)) (1 : Int32)) (1 : Int32) M10 h
def m4_fewestSettling  (M : cM) : Option (Int32 × cM) := zbd (m4_listCourses M) (fun r1 M1 => m4_fewestSettling_7 zfu r1 (0 : Int32) M1)
theorem m4_fewestSettling_ok {X : zX} {G : zG} (Hy : zHy X G q4_fewestSettling zcC 5 117 (some .int)) {r : Int32} {M' : cM} (hE : zEnd X G (some (.inl r)) (zfC M'))  (M : cM) (h : m4_fewestSettling M = some (r, M')) : zGo (X, q4_fewestSettling, G) 0 0 (0, [(0, .inr (.inr (some (4, 0))))], [], zfC M) := by
  unfold m4_fewestSettling at h
  refine zblq Hy.1 Hy.2.1 [(.aload 0, 1)] (S' := (1, [(0, .inr (.inr (some (4, 0))))], [.inr (.inr (some (4, 0)))], zfC M)) (b := true) (by decide +kernel) rfl rfl ?_
  obtain ⟨r1, M1, hc1, h⟩ := zbd_inv h
  refine zcallV Hy.1 (as := []) (st := []) (m4_listCourses_met (zOK_G Hy.1) Hy.2.1 hc1) cw4_123 m4_listCourses_in m4_listCourses_se (by decide) (zhlv Hy.2.1 rfl) rfl (zroom Hy.2.2 ⟨by decide, by decide⟩) rfl (by decide +kernel) ⟨Nat.zero_le _, Nat.zero_le _⟩ ?_
  refine zblq Hy.1 Hy.2.1 [(.istore 1, 1), (.iconst 0, 1), (.istore 2, 1)] (S' := (7, [(0, .inr (.inr (some (4, 0)))), (1, .inl r1), (2, .inl (0 : Int32))], [], zfC M1)) (b := true) (by decide +kernel) rfl rfl ?_
  refine zGo_keep [0, 1, 2] rfl ?_
  exact m4_fewestSettling_7_ok Hy hE zfu r1 (0 : Int32) M1 h
theorem m4_fewestSettling_met {l : Launch} {G : zG} (hG : zGok G) (hcn : zgcn G = zcC)  {M : cM} {r : Int32} {M' : cM} (h : m4_fewestSettling M = some (r, M')) : zMet l G yX4_fewestSettling cX4_fewestSettling 4 (some .int) 5 117 [.inr (.inr (some (4, 0)))] (zfC M) (some (.inl r)) (zfC M') :=
  zMet_of hG tbX4_ok rfl (by decide +kernel) (Nat.le_of_ble_eq_true rfl) (fun X _ Z hA hE => m4_fewestSettling_ok ⟨Z, hcn, hA⟩ hE M h)
abbrev q11_settle : ByteArray × Nat × String × zT := (cX11_settle, 7, RX11, tbX11)
def m11_settle (x1 : Int32) (x2 : Int32) (x3 : Int32) (x4 : Int32) (x5 : Int32) (M : cM) : Option (Int32 × cM) := zbd (m11_refusedClaim x1 x2 x3 x4 x5 M) (fun r1 M1 => (if 0 ≤ r1 then zbv (m4_claim x1 x2 x3 x4 x5 M1) (fun M2 => zbd (m4_fewestSettling M2) (fun r3 M3 => some (r3, M3))) else some (r1, M1)))
theorem m11_settle_ok {X : zX} {G : zG} (Hy : zHy X G q11_settle zcC 6 140 (some .int)) {r : Int32} {M' : cM} (hE : zEnd X G (some (.inl r)) (zfC M')) (x1 : Int32) (x2 : Int32) (x3 : Int32) (x4 : Int32) (x5 : Int32) (M : cM) (h : m11_settle x1 x2 x3 x4 x5 M = some (r, M')) : zGo (X, q11_settle, G) 0 0 (0, [(0, .inr (.inr (some (11, 0)))), (1, .inl x1), (2, .inl x2), (3, .inl x3), (4, .inl x4), (5, .inl x5)], [], zfC M) := by
  unfold m11_settle at h
  refine zblq Hy.1 Hy.2.1 [(.aload 0, 1), (.iload 1, 1), (.iload 2, 1), (.iload 3, 1), (.iload 4, 2), (.iload 5, 2)] (S' := (8, [(0, .inr (.inr (some (11, 0)))), (1, .inl x1), (2, .inl x2), (3, .inl x3), (4, .inl x4), (5, .inl x5)], [.inl x5, .inl x4, .inl x3, .inl x2, .inl x1, .inr (.inr (some (11, 0)))], zfC M)) (b := true) (by decide +kernel) rfl rfl ?_
  obtain ⟨r1, M1, hc1, h⟩ := zbd_inv h
  refine zcallV Hy.1 (as := [.inl x1, .inl x2, .inl x3, .inl x4, .inl x5]) (st := []) (m11_refusedClaim_met (zOK_G Hy.1) Hy.2.1 hc1) cw11_328 m11_refusedClaim_in m11_refusedClaim_se (by decide) (zhlv Hy.2.1 rfl) rfl (zroom Hy.2.2 ⟨by decide, by decide⟩) rfl (by decide +kernel) ⟨Nat.zero_le _, Nat.zero_le _⟩ ?_
  refine zblq Hy.1 Hy.2.1 [(.istore 6, 2), (.iload 6, 2)] (S' := (15, [(0, .inr (.inr (some (11, 0)))), (1, .inl x1), (2, .inl x2), (3, .inl x3), (4, .inl x4), (5, .inl x5), (6, .inl r1)], [.inl r1], zfC M1)) (b := true) (by decide +kernel) rfl rfl ?_
  refine zif_ge Hy.1 (off := 6) (tgt := 21) (by decide +kernel) (by decide) (fun hb4 => ?_) (fun hb4 => ?_)
  · replace h := zite_t h hb4
    refine zblq Hy.1 Hy.2.1 [(.aload 0, 1), (.getfield 1106, 3), (.iload 1, 1), (.iload 2, 1), (.iload 3, 1), (.iload 4, 2), (.iload 5, 2)] (S' := (32, [(0, .inr (.inr (some (11, 0)))), (1, .inl x1), (2, .inl x2), (3, .inl x3), (4, .inl x4), (5, .inl x5), (6, .inl r1)], [.inl x5, .inl x4, .inl x3, .inl x2, .inl x1, .inr (.inr (some (4, 0)))], zfC M1)) (b := true) (by decide +kernel) rfl rfl ?_
    obtain ⟨M2, hc2, h⟩ := zbv_inv h
    refine zcallV Hy.1 (as := [.inl x1, .inl x2, .inl x3, .inl x4, .inl x5]) (st := []) (m4_claim_met (zOK_G Hy.1) Hy.2.1 hc2) cw11_331 m4_claim_in m4_claim_se (by decide) (zhlv Hy.2.1 rfl) rfl (zroom Hy.2.2 ⟨by decide, by decide⟩) rfl (by decide +kernel) ⟨Nat.zero_le _, Nat.zero_le _⟩ ?_
    refine zblq Hy.1 Hy.2.1 [(.aload 0, 1), (.getfield 1106, 3)] (S' := (39, [(0, .inr (.inr (some (11, 0)))), (1, .inl x1), (2, .inl x2), (3, .inl x3), (4, .inl x4), (5, .inl x5), (6, .inl r1)], [.inr (.inr (some (4, 0)))], zfC M2)) (b := true) (by decide +kernel) rfl rfl ?_
    obtain ⟨r3, M3, hc3, h⟩ := zbd_inv h
    refine zcallV Hy.1 (as := []) (st := []) (m4_fewestSettling_met (zOK_G Hy.1) Hy.2.1 hc3) cw11_341 m4_fewestSettling_in m4_fewestSettling_se (by decide) (zhlv Hy.2.1 rfl) rfl (zroom Hy.2.2 ⟨by decide, by decide⟩) rfl (by decide +kernel) ⟨Nat.zero_le _, Nat.zero_le _⟩ ?_
    cases h
    exact zret_i Hy.1 Hy.2.2 hE (by decide +kernel)
  · replace h := zite_f h hb4
    refine zblq Hy.1 Hy.2.1 [(.iload 6, 2)] (S' := (20, [(0, .inr (.inr (some (11, 0)))), (1, .inl x1), (2, .inl x2), (3, .inl x3), (4, .inl x4), (5, .inl x5), (6, .inl r1)], [.inl r1], zfC M1)) (b := true) (by decide +kernel) rfl rfl ?_
    cases h
    exact zret_i Hy.1 Hy.2.2 hE (by decide +kernel)
theorem m11_settle_met {l : Launch} {G : zG} (hG : zGok G) (hcn : zgcn G = zcC) {x1 : Int32} {x2 : Int32} {x3 : Int32} {x4 : Int32} {x5 : Int32} {M : cM} {r : Int32} {M' : cM} (h : m11_settle x1 x2 x3 x4 x5 M = some (r, M')) : zMet l G yX11_settle cX11_settle 7 (some .int) 6 140 [.inr (.inr (some (11, 0))), .inl x1, .inl x2, .inl x3, .inl x4, .inl x5] (zfC M) (some (.inl r)) (zfC M') :=
  zMet_of hG tbX11_ok rfl (by decide +kernel) (Nat.le_of_ble_eq_true rfl) (fun X _ Z hA hE => m11_settle_ok ⟨Z, hcn, hA⟩ hE x1 x2 x3 x4 x5 M h)
abbrev q3_countLiving : ByteArray × Nat × String × zT := (cX3_countLiving, 1, RX3, tbX3)
def m3_countLiving  (M : cM) : Option (Int32 × cM) := zbd (m3_living M) (fun r1 M1 => zbd (mJ6_bitCount r1 M1) (fun r2 M2 => some (r2, M2)))
theorem m3_countLiving_ok {X : zX} {G : zG} (Hy : zHy X G q3_countLiving zcC 2 43 (some .int)) {r : Int32} {M' : cM} (hE : zEnd X G (some (.inl r)) (zfC M'))  (M : cM) (h : m3_countLiving M = some (r, M')) : zGo (X, q3_countLiving, G) 0 0 (0, [(0, .inr (.inr (some (3, 0))))], [], zfC M) := by
  unfold m3_countLiving at h
  refine zblq Hy.1 Hy.2.1 [(.aload 0, 1)] (S' := (1, [(0, .inr (.inr (some (3, 0))))], [.inr (.inr (some (3, 0)))], zfC M)) (b := true) (by decide +kernel) rfl rfl ?_
  obtain ⟨r1, M1, hc1, h⟩ := zbd_inv h
  refine zcallV Hy.1 (as := []) (st := []) (m3_living_met (zOK_G Hy.1) Hy.2.1 hc1) cw3_53 m3_living_in m3_living_se (by decide) (zhlv Hy.2.1 rfl) rfl (zroom Hy.2.2 ⟨by decide, by decide⟩) rfl (by decide +kernel) ⟨Nat.zero_le _, Nat.zero_le _⟩ ?_
  obtain ⟨r2, M2, hc2, h⟩ := zbd_inv h
  refine zcallS Hy.1 (as := [.inl r1]) (st := []) (mJ6_bitCount_met (zOK_G Hy.1) Hy.2.1 hc2) cw3_57 mJ6_bitCount_in rfl (zroom Hy.2.2 ⟨by decide, by decide⟩) rfl (by decide +kernel) ⟨Nat.zero_le _, Nat.zero_le _⟩ ?_
  cases h
  exact zret_i Hy.1 Hy.2.2 hE (by decide +kernel)
theorem m3_countLiving_met {l : Launch} {G : zG} (hG : zGok G) (hcn : zgcn G = zcC)  {M : cM} {r : Int32} {M' : cM} (h : m3_countLiving M = some (r, M')) : zMet l G yX3_countLiving cX3_countLiving 1 (some .int) 2 43 [.inr (.inr (some (3, 0)))] (zfC M) (some (.inl r)) (zfC M') :=
  zMet_of hG tbX3_ok rfl (by decide +kernel) (Nat.le_of_ble_eq_true rfl) (fun X _ Z hA hE => m3_countLiving_ok ⟨Z, hcn, hA⟩ hE M h)
abbrev q11_count : ByteArray × Nat × String × zT := (cX11_count, 2, RX11, tbX11)
def m11_count (x1 : Int32) (M : cM) : Option (Int32 × cM) := (if x1 = 0 then some (cg M 3 0 4, M) else (if x1 = 1 then zbd (m3_countLiving M) (fun r2 M2 => some (r2, M2)) else (if x1 = 2 then some (cg M 3 0 5, M) else (if x1 = 3 then some (cg M 10 0 1, M) else (if x1 = 4 then some (cg M 1 0 6, M) else (if x1 = 5 then some (cg M 6 0 1, M) else (if x1 = 6 then some (cg M 4 0 1, M) else (some ((-3 : Int32), M)))))))))
theorem m11_count_ok {X : zX} {G : zG} (Hy : zHy X G q11_count zcC 3 63 (some .int)) {r : Int32} {M' : cM} (hE : zEnd X G (some (.inl r)) (zfC M')) (x1 : Int32) (M : cM) (h : m11_count x1 M = some (r, M')) : zGo (X, q11_count, G) 0 0 (0, [(0, .inr (.inr (some (11, 0)))), (1, .inl x1)], [], zfC M) := by
  unfold m11_count at h
  refine zblq Hy.1 Hy.2.1 [(.iload 1, 1)] (S' := (1, [(0, .inr (.inr (some (11, 0)))), (1, .inl x1)], [.inl x1], zfC M)) (b := true) (by decide +kernel) rfl rfl ?_
  have hd1 : decode cX11_count 1 = .ok (.tableswitch 99 0 6 #[43, 51, 59, 67, 75, 83, 91], 43) := by decide +kernel
  by_cases hs1_0 : x1 = (0 : Int32)
  · replace h := zite_t h hs1_0
    refine zsw_in Hy.1 (v := 0) (tgt := 44) (off := 43) hs1_0 hd1 (by decide +kernel) (by decide) ?_
    refine zblq Hy.1 Hy.2.1 [(.aload 0, 1), (.getfield 1100, 3), (.multianewarray 3 4, 3)] (S' := (51, [(0, .inr (.inr (some (11, 0)))), (1, .inl x1)], [.inl (cg M 3 0 4)], zfC M)) (b := true) (by decide +kernel) rfl rfl ?_
    cases h
    exact zret_i Hy.1 Hy.2.2 hE (by decide +kernel)
  replace h := zite_f h hs1_0
  by_cases hs1_1 : x1 = (1 : Int32)
  · replace h := zite_t h hs1_1
    refine zsw_in Hy.1 (v := 1) (tgt := 52) (off := 51) hs1_1 hd1 (by decide +kernel) (by decide) ?_
    refine zblq Hy.1 Hy.2.1 [(.aload 0, 1), (.getfield 1100, 3)] (S' := (56, [(0, .inr (.inr (some (11, 0)))), (1, .inl x1)], [.inr (.inr (some (3, 0)))], zfC M)) (b := true) (by decide +kernel) rfl rfl ?_
    obtain ⟨r2, M2, hc2, h⟩ := zbd_inv h
    refine zcallV Hy.1 (as := []) (st := []) (m3_countLiving_met (zOK_G Hy.1) Hy.2.1 hc2) cw11_344 m3_countLiving_in m3_countLiving_se (by decide) (zhlv Hy.2.1 rfl) rfl (zroom Hy.2.2 ⟨by decide, by decide⟩) rfl (by decide +kernel) ⟨Nat.zero_le _, Nat.zero_le _⟩ ?_
    cases h
    exact zret_i Hy.1 Hy.2.2 hE (by decide +kernel)
  replace h := zite_f h hs1_1
  by_cases hs1_2 : x1 = (2 : Int32)
  · replace h := zite_t h hs1_2
    refine zsw_in Hy.1 (v := 2) (tgt := 60) (off := 59) hs1_2 hd1 (by decide +kernel) (by decide) ?_
    refine zblq Hy.1 Hy.2.1 [(.aload 0, 1), (.getfield 1100, 3), (.multianewarray 3 5, 3)] (S' := (67, [(0, .inr (.inr (some (11, 0)))), (1, .inl x1)], [.inl (cg M 3 0 5)], zfC M)) (b := true) (by decide +kernel) rfl rfl ?_
    cases h
    exact zret_i Hy.1 Hy.2.2 hE (by decide +kernel)
  replace h := zite_f h hs1_2
  by_cases hs1_3 : x1 = (3 : Int32)
  · replace h := zite_t h hs1_3
    refine zsw_in Hy.1 (v := 3) (tgt := 68) (off := 67) hs1_3 hd1 (by decide +kernel) (by decide) ?_
    refine zblq Hy.1 Hy.2.1 [(.aload 0, 1), (.getfield 1101, 3), (.multianewarray 10 1, 3)] (S' := (75, [(0, .inr (.inr (some (11, 0)))), (1, .inl x1)], [.inl (cg M 10 0 1)], zfC M)) (b := true) (by decide +kernel) rfl rfl ?_
    cases h
    exact zret_i Hy.1 Hy.2.2 hE (by decide +kernel)
  replace h := zite_f h hs1_3
  by_cases hs1_4 : x1 = (4 : Int32)
  · replace h := zite_t h hs1_4
    refine zsw_in Hy.1 (v := 4) (tgt := 76) (off := 75) hs1_4 hd1 (by decide +kernel) (by decide) ?_
    refine zblq Hy.1 Hy.2.1 [(.aload 0, 1), (.getfield 1104, 3), (.multianewarray 1 6, 3)] (S' := (83, [(0, .inr (.inr (some (11, 0)))), (1, .inl x1)], [.inl (cg M 1 0 6)], zfC M)) (b := true) (by decide +kernel) rfl rfl ?_
    cases h
    exact zret_i Hy.1 Hy.2.2 hE (by decide +kernel)
  replace h := zite_f h hs1_4
  by_cases hs1_5 : x1 = (5 : Int32)
  · replace h := zite_t h hs1_5
    refine zsw_in Hy.1 (v := 5) (tgt := 84) (off := 83) hs1_5 hd1 (by decide +kernel) (by decide) ?_
    refine zblq Hy.1 Hy.2.1 [(.aload 0, 1), (.getfield 1105, 3), (.multianewarray 6 1, 3)] (S' := (91, [(0, .inr (.inr (some (11, 0)))), (1, .inl x1)], [.inl (cg M 6 0 1)], zfC M)) (b := true) (by decide +kernel) rfl rfl ?_
    cases h
    exact zret_i Hy.1 Hy.2.2 hE (by decide +kernel)
  replace h := zite_f h hs1_5
  by_cases hs1_6 : x1 = (6 : Int32)
  · replace h := zite_t h hs1_6
    refine zsw_in Hy.1 (v := 6) (tgt := 92) (off := 91) hs1_6 hd1 (by decide +kernel) (by decide) ?_
    refine zblq Hy.1 Hy.2.1 [(.aload 0, 1), (.getfield 1106, 3), (.multianewarray 4 1, 3)] (S' := (99, [(0, .inr (.inr (some (11, 0)))), (1, .inl x1)], [.inl (cg M 4 0 1)], zfC M)) (b := true) (by decide +kernel) rfl rfl ?_
    cases h
    exact zret_i Hy.1 Hy.2.2 hE (by decide +kernel)
  replace h := zite_f h hs1_6
  refine zsw_out Hy.1 hd1 (zsw_far 7 (by decide) (fun j hj => match j, hj with | 0, _ => hs1_0 | 1, _ => hs1_1 | 2, _ => hs1_2 | 3, _ => hs1_3 | 4, _ => hs1_4 | 5, _ => hs1_5 | 6, _ => hs1_6)) (by decide : (1 : Int) + 99 = (100 : Int)) ?_
  refine zblq Hy.1 Hy.2.1 [(.iconst (-3), 2)] (S' := (102, [(0, .inr (.inr (some (11, 0)))), (1, .inl x1)], [.inl (-3 : Int32)], zfC M)) (b := true) (by decide +kernel) rfl rfl ?_
  cases h
  exact zret_i Hy.1 Hy.2.2 hE (by decide +kernel)
theorem m11_count_met {l : Launch} {G : zG} (hG : zGok G) (hcn : zgcn G = zcC) {x1 : Int32} {M : cM} {r : Int32} {M' : cM} (h : m11_count x1 M = some (r, M')) : zMet l G yX11_count cX11_count 2 (some .int) 3 63 [.inr (.inr (some (11, 0))), .inl x1] (zfC M) (some (.inl r)) (zfC M') :=
  zMet_of hG tbX11_ok rfl (by decide +kernel) (Nat.le_of_ble_eq_true rfl) (fun X _ Z hA hE => m11_count_ok ⟨Z, hcn, hA⟩ hE x1 M h)
