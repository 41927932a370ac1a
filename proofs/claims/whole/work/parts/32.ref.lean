abbrev q12_rings : ByteArray × Nat × String × zT := (cX12_rings, 6, RX12, tbX12)
def m12_rings_88 (k4 : Int32 → Int32 → rM → Option (Int32 × rM)) (x2 : Int32) (t0 : Int32) (t1 : Int32) (M : rM) : Option (Int32 × rM) := k4 (t0 + t1) (x2 + (1 : Int32)) M
theorem m12_rings_88_ok {X : zX} {G : zG} (Hy : zHy X G q12_rings zcR 0 0 (some .int)) {r : Int32} {M' : rM} (hE : zEnd X G (some (.inl r)) (zfR M')) {k4 : Int32 → Int32 → rM → Option (Int32 × rM)} (hk4 : ∀ (x1 : Int32) (x2 : Int32) (M : rM), k4 x1 x2 M = some (r, M') → zGo (X, q12_rings, G) 0 0 (4, [(0, .inr (.inr (some (12, 0)))), (1, .inl x1), (2, .inl x2)], [], zfR M)) (x2 : Int32) (t0 : Int32) (t1 : Int32) (M : rM) (h : m12_rings_88 k4 x2 t0 t1 M = some (r, M')) : zGo (X, q12_rings, G) 0 0 (88, [(0, .inr (.inr (some (12, 0)))), (2, .inl x2)], [.inl t1, .inl t0], zfR M) := by
  unfold m12_rings_88 at h
  refine zblq Hy.1 Hy.2.1 [(.iadd, 1), (.istore 1, 1), (.iinc 2 1, 3), (.ldc 4, 3)] (S' := (4, [(0, .inr (.inr (some (12, 0)))), (1, .inl (t0 + t1)), (2, .inl (x2 + (1 : Int32)))], [], zfR M)) (b := true) (by decide +kernel) rfl rfl ?_
  refine zGo_keep [0, 1, 2] rfl ?_
  exact hk4 (t0 + t1) (x2 + (1 : Int32)) M h
def m12_rings_72 (k4 : Int32 → Int32 → rM → Option (Int32 × rM)) (x1 : Int32) (x2 : Int32) (x3 : Int32) (x5 : Int32) (M : rM) : Option (Int32 × rM) := (if x3 = x2 then (if x5 = 0 then m12_rings_88 k4 x2 x1 (0 : Int32) M else m12_rings_88 k4 x2 x1 (1 : Int32) M) else m12_rings_88 k4 x2 x1 (0 : Int32) M)
theorem m12_rings_72_ok {X : zX} {G : zG} (Hy : zHy X G q12_rings zcR 0 0 (some .int)) {r : Int32} {M' : rM} (hE : zEnd X G (some (.inl r)) (zfR M')) {k4 : Int32 → Int32 → rM → Option (Int32 × rM)} (hk4 : ∀ (x1 : Int32) (x2 : Int32) (M : rM), k4 x1 x2 M = some (r, M') → zGo (X, q12_rings, G) 0 0 (4, [(0, .inr (.inr (some (12, 0)))), (1, .inl x1), (2, .inl x2)], [], zfR M)) (x1 : Int32) (x2 : Int32) (x3 : Int32) (x5 : Int32) (M : rM) (h : m12_rings_72 k4 x1 x2 x3 x5 M = some (r, M')) : zGo (X, q12_rings, G) 0 0 (72, [(0, .inr (.inr (some (12, 0)))), (1, .inl x1), (2, .inl x2), (3, .inl x3), (5, .inl x5)], [], zfR M) := by
  unfold m12_rings_72 at h
  refine zblq Hy.1 Hy.2.1 [(.iload 1, 1), (.iload 3, 1), (.iload 2, 1)] (S' := (75, [(0, .inr (.inr (some (12, 0)))), (1, .inl x1), (2, .inl x2), (3, .inl x3), (5, .inl x5)], [.inl x2, .inl x3, .inl x1], zfR M)) (b := true) (by decide +kernel) rfl rfl ?_
  refine zic_ne Hy.1 (off := 12) (tgt := 87) (by decide +kernel) (by decide) (fun hb3 => ?_) (fun hb3 => ?_)
  · replace h := zite_f h hb3
    refine zblq Hy.1 Hy.2.1 [(.iconst 0, 1)] (S' := (88, [(0, .inr (.inr (some (12, 0)))), (1, .inl x1), (2, .inl x2), (3, .inl x3), (5, .inl x5)], [.inl (0 : Int32), .inl x1], zfR M)) (b := true) (by decide +kernel) rfl rfl ?_
    refine zGo_keep [0, 2] rfl ?_
    exact m12_rings_88_ok Hy hE hk4 x2 x1 (0 : Int32) M h
  · replace h := zite_t h hb3
    refine zblq Hy.1 Hy.2.1 [(.iload 5, 2)] (S' := (80, [(0, .inr (.inr (some (12, 0)))), (1, .inl x1), (2, .inl x2), (3, .inl x3), (5, .inl x5)], [.inl x5, .inl x1], zfR M)) (b := true) (by decide +kernel) rfl rfl ?_
    refine zif_eq Hy.1 (off := 7) (tgt := 87) (by decide +kernel) (by decide) (fun hb2 => ?_) (fun hb2 => ?_)
    · replace h := zite_t h hb2
      refine zblq Hy.1 Hy.2.1 [(.iconst 0, 1)] (S' := (88, [(0, .inr (.inr (some (12, 0)))), (1, .inl x1), (2, .inl x2), (3, .inl x3), (5, .inl x5)], [.inl (0 : Int32), .inl x1], zfR M)) (b := true) (by decide +kernel) rfl rfl ?_
      refine zGo_keep [0, 2] rfl ?_
      exact m12_rings_88_ok Hy hE hk4 x2 x1 (0 : Int32) M h
    · replace h := zite_f h hb2
      refine zblq Hy.1 Hy.2.1 [(.iconst 1, 1), (.ldc 88, 3)] (S' := (88, [(0, .inr (.inr (some (12, 0)))), (1, .inl x1), (2, .inl x2), (3, .inl x3), (5, .inl x5)], [.inl (1 : Int32), .inl x1], zfR M)) (b := true) (by decide +kernel) rfl rfl ?_
      refine zGo_keep [0, 2] rfl ?_
      exact m12_rings_88_ok Hy hE hk4 x2 x1 (1 : Int32) M h
def m12_rings_57 (k4 : Int32 → Int32 → rM → Option (Int32 × rM)) (k25 : Int32 → Int32 → Int32 → Int32 → Int32 → rM → Option (Int32 × rM)) (x1 : Int32) (x2 : Int32) (x3 : Int32) (x4 : Int32) (t0 : Int32) (M : rM) : Option (Int32 × rM) := zgd (zin x3 10 && true) (k25 x1 x2 (rg M 1309 0 (nx x3)) (x4 + (1 : Int32)) t0 M)
theorem m12_rings_57_ok {X : zX} {G : zG} (Hy : zHy X G q12_rings zcR 0 0 (some .int)) {r : Int32} {M' : rM} (hE : zEnd X G (some (.inl r)) (zfR M')) {k4 : Int32 → Int32 → rM → Option (Int32 × rM)} (hk4 : ∀ (x1 : Int32) (x2 : Int32) (M : rM), k4 x1 x2 M = some (r, M') → zGo (X, q12_rings, G) 0 0 (4, [(0, .inr (.inr (some (12, 0)))), (1, .inl x1), (2, .inl x2)], [], zfR M)) {k25 : Int32 → Int32 → Int32 → Int32 → Int32 → rM → Option (Int32 × rM)} (hk25 : ∀ (x1 : Int32) (x2 : Int32) (x3 : Int32) (x4 : Int32) (x5 : Int32) (M : rM), k25 x1 x2 x3 x4 x5 M = some (r, M') → zGo (X, q12_rings, G) 0 0 (25, [(0, .inr (.inr (some (12, 0)))), (1, .inl x1), (2, .inl x2), (3, .inl x3), (4, .inl x4), (5, .inl x5)], [], zfR M)) (x1 : Int32) (x2 : Int32) (x3 : Int32) (x4 : Int32) (t0 : Int32) (M : rM) (h : m12_rings_57 k4 k25 x1 x2 x3 x4 t0 M = some (r, M')) : zGo (X, q12_rings, G) 0 0 (57, [(0, .inr (.inr (some (12, 0)))), (1, .inl x1), (2, .inl x2), (3, .inl x3), (4, .inl x4)], [.inl t0], zfR M) := by
  unfold m12_rings_57 at h
  obtain ⟨hg4, h⟩ := zgd_inv h
  refine zblq Hy.1 Hy.2.1 [(.istore 5, 2), (.aload 0, 1), (.getfield 1209, 3), (.iload 3, 1), (.iaload, 1), (.istore 3, 1), (.iinc 4 1, 3), (.ldc 25, 3)] (S' := (25, [(0, .inr (.inr (some (12, 0)))), (1, .inl x1), (2, .inl x2), (3, .inl (rg M 1309 0 (nx x3))), (4, .inl (x4 + (1 : Int32))), (5, .inl t0)], [], zfR M)) (b := zin x3 10 && true) (by decide +kernel) rfl hg4 ?_
  refine zGo_keep [0, 1, 2, 3, 4, 5] rfl ?_
  exact hk25 x1 x2 (rg M 1309 0 (nx x3)) (x4 + (1 : Int32)) t0 M h
def m12_rings_25 (k4 : Int32 → Int32 → rM → Option (Int32 × rM)) : Nat → Int32 → Int32 → Int32 → Int32 → Int32 → rM → Option (Int32 × rM)
  | 0, _, _, _, _, _, _ => none
  | n + 1, x1, x2, x3, x4, x5, M => (if x3 = (-1 : Int32) then m12_rings_72 k4 x1 x2 x3 x5 M else (if x3 = x2 then m12_rings_72 k4 x1 x2 x3 x5 M else (if (11 : Int32) ≤ x4 then m12_rings_72 k4 x1 x2 x3 x5 M else (if x5 = 0 then m12_rings_57 k4 (m12_rings_25 k4 n) x1 x2 x3 x4 (0 : Int32) M else (if x3 ≤ x2 then m12_rings_57 k4 (m12_rings_25 k4 n) x1 x2 x3 x4 (0 : Int32) M else m12_rings_57 k4 (m12_rings_25 k4 n) x1 x2 x3 x4 (1 : Int32) M)))))
theorem m12_rings_25_ok {X : zX} {G : zG} (Hy : zHy X G q12_rings zcR 0 0 (some .int)) {r : Int32} {M' : rM} (hE : zEnd X G (some (.inl r)) (zfR M')) {k4 : Int32 → Int32 → rM → Option (Int32 × rM)} (hk4 : ∀ (x1 : Int32) (x2 : Int32) (M : rM), k4 x1 x2 M = some (r, M') → zGo (X, q12_rings, G) 0 0 (4, [(0, .inr (.inr (some (12, 0)))), (1, .inl x1), (2, .inl x2)], [], zfR M)) : ∀ (n : Nat) (x1 : Int32) (x2 : Int32) (x3 : Int32) (x4 : Int32) (x5 : Int32) (M : rM), m12_rings_25 k4 n x1 x2 x3 x4 x5 M = some (r, M') → zGo (X, q12_rings, G) 0 0 (25, [(0, .inr (.inr (some (12, 0)))), (1, .inl x1), (2, .inl x2), (3, .inl x3), (4, .inl x4), (5, .inl x5)], [], zfR M) := by
  intro n
  induction n with
  | zero => intro x1 x2 x3 x4 x5 M h; cases h
  | succ n ih =>
    intro x1 x2 x3 x4 x5 M h
    unfold m12_rings_25 at h
    refine zblq Hy.1 Hy.2.1 [(.iload 3, 1), (.iconst (-1), 1)] (S' := (27, [(0, .inr (.inr (some (12, 0)))), (1, .inl x1), (2, .inl x2), (3, .inl x3), (4, .inl x4), (5, .inl x5)], [.inl (-1 : Int32), .inl x3], zfR M)) (b := true) (by decide +kernel) rfl rfl ?_
    refine zic_eq Hy.1 (off := 45) (tgt := 72) (by decide +kernel) (by decide) (fun hb9 => ?_) (fun hb9 => ?_)
    · replace h := zite_t h hb9
      refine zGo_keep [0, 1, 2, 3, 5] rfl ?_
      exact m12_rings_72_ok Hy hE hk4 x1 x2 x3 x5 M h
    · replace h := zite_f h hb9
      refine zblq Hy.1 Hy.2.1 [(.iload 3, 1), (.iload 2, 1)] (S' := (32, [(0, .inr (.inr (some (12, 0)))), (1, .inl x1), (2, .inl x2), (3, .inl x3), (4, .inl x4), (5, .inl x5)], [.inl x2, .inl x3], zfR M)) (b := true) (by decide +kernel) rfl rfl ?_
      refine zic_eq Hy.1 (off := 40) (tgt := 72) (by decide +kernel) (by decide) (fun hb8 => ?_) (fun hb8 => ?_)
      · replace h := zite_t h hb8
        refine zGo_keep [0, 1, 2, 3, 5] rfl ?_
        exact m12_rings_72_ok Hy hE hk4 x1 x2 x3 x5 M h
      · replace h := zite_f h hb8
        refine zblq Hy.1 Hy.2.1 [(.iload 4, 2), (.iconst 11, 2)] (S' := (39, [(0, .inr (.inr (some (12, 0)))), (1, .inl x1), (2, .inl x2), (3, .inl x3), (4, .inl x4), (5, .inl x5)], [.inl (11 : Int32), .inl x4], zfR M)) (b := true) (by decide +kernel) rfl rfl ?_
        refine zic_ge Hy.1 (off := 33) (tgt := 72) (by decide +kernel) (by decide) (fun hb7 => ?_) (fun hb7 => ?_)
        · replace h := zite_t h hb7
          refine zGo_keep [0, 1, 2, 3, 5] rfl ?_
          exact m12_rings_72_ok Hy hE hk4 x1 x2 x3 x5 M h
        · replace h := zite_f h hb7
          refine zblq Hy.1 Hy.2.1 [(.iload 5, 2)] (S' := (44, [(0, .inr (.inr (some (12, 0)))), (1, .inl x1), (2, .inl x2), (3, .inl x3), (4, .inl x4), (5, .inl x5)], [.inl x5], zfR M)) (b := true) (by decide +kernel) rfl rfl ?_
          refine zif_eq Hy.1 (off := 12) (tgt := 56) (by decide +kernel) (by decide) (fun hb6 => ?_) (fun hb6 => ?_)
          · replace h := zite_t h hb6
            refine zblq Hy.1 Hy.2.1 [(.iconst 0, 1)] (S' := (57, [(0, .inr (.inr (some (12, 0)))), (1, .inl x1), (2, .inl x2), (3, .inl x3), (4, .inl x4), (5, .inl x5)], [.inl (0 : Int32)], zfR M)) (b := true) (by decide +kernel) rfl rfl ?_
            refine zGo_keep [0, 1, 2, 3, 4] rfl ?_
            exact m12_rings_57_ok Hy hE hk4 ih x1 x2 x3 x4 (0 : Int32) M h
          · replace h := zite_f h hb6
            refine zblq Hy.1 Hy.2.1 [(.iload 3, 1), (.iload 2, 1)] (S' := (49, [(0, .inr (.inr (some (12, 0)))), (1, .inl x1), (2, .inl x2), (3, .inl x3), (4, .inl x4), (5, .inl x5)], [.inl x2, .inl x3], zfR M)) (b := true) (by decide +kernel) rfl rfl ?_
            refine zic_le Hy.1 (off := 7) (tgt := 56) (by decide +kernel) (by decide) (fun hb5 => ?_) (fun hb5 => ?_)
            · replace h := zite_t h hb5
              refine zblq Hy.1 Hy.2.1 [(.iconst 0, 1)] (S' := (57, [(0, .inr (.inr (some (12, 0)))), (1, .inl x1), (2, .inl x2), (3, .inl x3), (4, .inl x4), (5, .inl x5)], [.inl (0 : Int32)], zfR M)) (b := true) (by decide +kernel) rfl rfl ?_
              refine zGo_keep [0, 1, 2, 3, 4] rfl ?_
              exact m12_rings_57_ok Hy hE hk4 ih x1 x2 x3 x4 (0 : Int32) M h
            · replace h := zite_f h hb5
              refine zblq Hy.1 Hy.2.1 [(.iconst 1, 1), (.ldc 57, 3)] (S' := (57, [(0, .inr (.inr (some (12, 0)))), (1, .inl x1), (2, .inl x2), (3, .inl x3), (4, .inl x4), (5, .inl x5)], [.inl (1 : Int32)], zfR M)) (b := true) (by decide +kernel) rfl rfl ?_
              refine zGo_keep [0, 1, 2, 3, 4] rfl ?_
              exact m12_rings_57_ok Hy hE hk4 ih x1 x2 x3 x4 (1 : Int32) M h
def m12_rings_4 : Nat → Int32 → Int32 → rM → Option (Int32 × rM)
  | 0, _, _, _ => none
  | n + 1, x1, x2, M => (if (rg M 12 0 0) ≤ x2 then some (x1, M) else zgd (zin x2 10 && true) (m12_rings_25 (m12_rings_4 n) zfu x1 x2 (rg M 1309 0 (nx x2)) (1 : Int32) (1 : Int32) M))
theorem m12_rings_4_ok {X : zX} {G : zG} (Hy : zHy X G q12_rings zcR 0 0 (some .int)) {r : Int32} {M' : rM} (hE : zEnd X G (some (.inl r)) (zfR M')) : ∀ (n : Nat) (x1 : Int32) (x2 : Int32) (M : rM), m12_rings_4 n x1 x2 M = some (r, M') → zGo (X, q12_rings, G) 0 0 (4, [(0, .inr (.inr (some (12, 0)))), (1, .inl x1), (2, .inl x2)], [], zfR M) := by
  intro n
  induction n with
  | zero => intro x1 x2 M h; cases h
  | succ n ih =>
    intro x1 x2 M h
    unfold m12_rings_4 at h
    refine zblq Hy.1 Hy.2.1 [(.iload 2, 1), (.aload 0, 1), (.multianewarray 12 0, 3)] (S' := (9, [(0, .inr (.inr (some (12, 0)))), (1, .inl x1), (2, .inl x2)], [.inl (rg M 12 0 0), .inl x2], zfR M)) (b := true) (by decide +kernel) rfl rfl ?_
    refine zic_ge Hy.1 (off := 87) (tgt := 96) (by decide +kernel) (by decide) (fun hb10 => ?_) (fun hb10 => ?_)
    · replace h := zite_t h hb10
      refine zblq Hy.1 Hy.2.1 [(.iload 1, 1)] (S' := (97, [(0, .inr (.inr (some (12, 0)))), (1, .inl x1), (2, .inl x2)], [.inl x1], zfR M)) (b := true) (by decide +kernel) rfl rfl ?_
      cases h
      exact zret_i Hy.1 Hy.2.2 hE (by decide +kernel)
    · replace h := zite_f h hb10
      obtain ⟨hg1, h⟩ := zgd_inv h
      refine zblq Hy.1 Hy.2.1 [(.aload 0, 1), (.getfield 1209, 3), (.iload 2, 1), (.iaload, 1), (.istore 3, 1), (.iconst 1, 1), (.istore 4, 2), (.iconst 1, 1), (.istore 5, 2)] (S' := (25, [(0, .inr (.inr (some (12, 0)))), (1, .inl x1), (2, .inl x2), (3, .inl (rg M 1309 0 (nx x2))), (4, .inl (1 : Int32)), (5, .inl (1 : Int32))], [], zfR M)) (b := zin x2 10 && true) (by decide +kernel) rfl hg1 ?_
      refine zGo_keep [0, 1, 2, 3, 4, 5] rfl ?_
      exact m12_rings_25_ok Hy hE ih zfu x1 x2 (rg M 1309 0 (nx x2)) (1 : Int32) (1 : Int32) M h
def m12_rings  (M : rM) : Option (Int32 × rM) := m12_rings_4 zfu (0 : Int32) (0 : Int32) M
theorem m12_rings_ok {X : zX} {G : zG} (Hy : zHy X G q12_rings zcR 0 0 (some .int)) {r : Int32} {M' : rM} (hE : zEnd X G (some (.inl r)) (zfR M'))  (M : rM) (h : m12_rings M = some (r, M')) : zGo (X, q12_rings, G) 0 0 (0, [(0, .inr (.inr (some (12, 0))))], [], zfR M) := by
  unfold m12_rings at h
  refine zblq Hy.1 Hy.2.1 [(.iconst 0, 1), (.istore 1, 1), (.iconst 0, 1), (.istore 2, 1)] (S' := (4, [(0, .inr (.inr (some (12, 0)))), (1, .inl (0 : Int32)), (2, .inl (0 : Int32))], [], zfR M)) (b := true) (by decide +kernel) rfl rfl ?_
  refine zGo_keep [0, 1, 2] rfl ?_
  exact m12_rings_4_ok Hy hE zfu (0 : Int32) (0 : Int32) M h
theorem m12_rings_met {l : Launch} {G : zG} (hG : zGok G) (hcn : zgcn G = zcR)  {M : rM} {r : Int32} {M' : rM} (h : m12_rings M = some (r, M')) : zMet l G yX12_rings cX12_rings 6 (some .int) 0 0 [.inr (.inr (some (12, 0)))] (zfR M) (some (.inl r)) (zfR M') :=
  zMet_of hG tbX12_ok rfl (by decide +kernel) (Nat.le_of_ble_eq_true rfl) (fun X _ Z hA hE => m12_rings_ok ⟨Z, hcn, hA⟩ hE M h)
abbrev q12_say : ByteArray × Nat × String × zT := (cX12_say, 4, RX12, tbX12)
def m12_say_95 (x1 : Int32) (M : rM) : Option (Int32 × rM) := zgd (zin x1 10 && true) (some (rg M 1314 0 (nx x1), M))
theorem m12_say_95_ok {X : zX} {G : zG} (Hy : zHy X G q12_say zcR 2 43 (some .int)) {r : Int32} {M' : rM} (hE : zEnd X G (some (.inl r)) (zfR M')) (x1 : Int32) (M : rM) (h : m12_say_95 x1 M = some (r, M')) : zGo (X, q12_say, G) 0 0 (95, [(0, .inr (.inr (some (12, 0)))), (1, .inl x1)], [], zfR M) := by
  unfold m12_say_95 at h
  obtain ⟨hg6, h⟩ := zgd_inv h
  refine zblq Hy.1 Hy.2.1 [(.aload 0, 1), (.getfield 1214, 3), (.iload 1, 1), (.iaload, 1)] (S' := (101, [(0, .inr (.inr (some (12, 0)))), (1, .inl x1)], [.inl (rg M 1314 0 (nx x1))], zfR M)) (b := zin x1 10 && true) (by decide +kernel) rfl hg6 ?_
  cases h
  exact zret_i Hy.1 Hy.2.2 hE (by decide +kernel)
def m12_say (x1 : Int32) (x2 : Int32) (M : rM) : Option (Int32 × rM) := zbd (m12_isBox x1 M) (fun r1 M1 => (if r1 = 0 then some ((-2 : Int32), M1) else zbd (m12_in x2 (0 : Int32) (999 : Int32) M1) (fun r2 M2 => (if r2 = 0 then some ((-3 : Int32), M2) else (if x1 = 0 then some ((-4 : Int32), M2) else zgd (zin x1 10 && true) ((if (rg M2 1302 0 (nx x1)) = 0 then some ((-4 : Int32), M2) else zgd (zin x1 10 && true) ((if (rg M2 1314 0 (nx x1)) = (4 : Int32) then some ((-5 : Int32), M2) else zgd (zin x1 10 && (zin (((24 : Int32) * x1) + ((6 : Int32) * (rg M2 1314 0 (nx x1)))) 240 && (zin ((((24 : Int32) * x1) + ((6 : Int32) * (rg M2 1314 0 (nx x1)))) + (1 : Int32)) 240 && (zin x1 10 && (zin x1 10 && true))))) (m12_say_95 x1 (rs (rs (rs M2 1315 0 (nx (((24 : Int32) * x1) + ((6 : Int32) * (rg M2 1314 0 (nx x1))))) (0 : Int32)) 1315 0 (nx ((((24 : Int32) * x1) + ((6 : Int32) * (rg M2 1314 0 (nx x1)))) + (1 : Int32))) x2) 1314 0 (nx x1) ((rg (rs (rs M2 1315 0 (nx (((24 : Int32) * x1) + ((6 : Int32) * (rg M2 1314 0 (nx x1))))) (0 : Int32)) 1315 0 (nx ((((24 : Int32) * x1) + ((6 : Int32) * (rg M2 1314 0 (nx x1)))) + (1 : Int32))) x2) 1314 0 (nx x1)) + (1 : Int32)))))))))))))
theorem m12_say_ok {X : zX} {G : zG} (Hy : zHy X G q12_say zcR 2 43 (some .int)) {r : Int32} {M' : rM} (hE : zEnd X G (some (.inl r)) (zfR M')) (x1 : Int32) (x2 : Int32) (M : rM) (h : m12_say x1 x2 M = some (r, M')) : zGo (X, q12_say, G) 0 0 (0, [(0, .inr (.inr (some (12, 0)))), (1, .inl x1), (2, .inl x2)], [], zfR M) := by
  unfold m12_say at h
  refine zblq Hy.1 Hy.2.1 [(.aload 0, 1), (.iload 1, 1)] (S' := (2, [(0, .inr (.inr (some (12, 0)))), (1, .inl x1), (2, .inl x2)], [.inl x1, .inr (.inr (some (12, 0)))], zfR M)) (b := true) (by decide +kernel) rfl rfl ?_
  obtain ⟨r1, M1, hc1, h⟩ := zbd_inv h
  refine zcallV Hy.1 (as := [.inl x1]) (st := []) (m12_isBox_met (zOK_G Hy.1) Hy.2.1 hc1) cw12_175 m12_isBox_in m12_isBox_se (by decide) (zhlv Hy.2.1 rfl) rfl (zroom Hy.2.2 ⟨by decide, by decide⟩) rfl (by decide +kernel) ⟨Nat.zero_le _, Nat.zero_le _⟩ ?_
  refine zif_ne Hy.1 (off := 6) (tgt := 11) (by decide +kernel) (by decide) (fun hb11 => ?_) (fun hb11 => ?_)
  · replace h := zite_f h hb11
    refine zblq Hy.1 Hy.2.1 [(.iload 2, 1), (.iconst 0, 1), (.iconst 999, 3)] (S' := (16, [(0, .inr (.inr (some (12, 0)))), (1, .inl x1), (2, .inl x2)], [.inl (999 : Int32), .inl (0 : Int32), .inl x2], zfR M1)) (b := true) (by decide +kernel) rfl rfl ?_
    obtain ⟨r2, M2, hc2, h⟩ := zbd_inv h
    refine zcallS Hy.1 (as := [.inl x2, .inl (0 : Int32), .inl (999 : Int32)]) (st := []) (m12_in_met (zOK_G Hy.1) Hy.2.1 hc2) cw12_171 m12_in_in rfl (zroom Hy.2.2 ⟨by decide, by decide⟩) rfl (by decide +kernel) ⟨Nat.zero_le _, Nat.zero_le _⟩ ?_
    refine zif_ne Hy.1 (off := 6) (tgt := 25) (by decide +kernel) (by decide) (fun hb10 => ?_) (fun hb10 => ?_)
    · replace h := zite_f h hb10
      refine zblq Hy.1 Hy.2.1 [(.iload 1, 1)] (S' := (26, [(0, .inr (.inr (some (12, 0)))), (1, .inl x1), (2, .inl x2)], [.inl x1], zfR M2)) (b := true) (by decide +kernel) rfl rfl ?_
      refine zif_eq Hy.1 (off := 12) (tgt := 38) (by decide +kernel) (by decide) (fun hb9 => ?_) (fun hb9 => ?_)
      · replace h := zite_t h hb9
        refine zblq Hy.1 Hy.2.1 [(.iconst (-4), 2)] (S' := (40, [(0, .inr (.inr (some (12, 0)))), (1, .inl x1), (2, .inl x2)], [.inl (-4 : Int32)], zfR M2)) (b := true) (by decide +kernel) rfl rfl ?_
        cases h
        exact zret_i Hy.1 Hy.2.2 hE (by decide +kernel)
      · replace h := zite_f h hb9
        obtain ⟨hg3, h⟩ := zgd_inv h
        refine zblq Hy.1 Hy.2.1 [(.aload 0, 1), (.getfield 1202, 3), (.iload 1, 1), (.iaload, 1)] (S' := (35, [(0, .inr (.inr (some (12, 0)))), (1, .inl x1), (2, .inl x2)], [.inl (rg M2 1302 0 (nx x1))], zfR M2)) (b := zin x1 10 && true) (by decide +kernel) rfl hg3 ?_
        refine zif_ne Hy.1 (off := 6) (tgt := 41) (by decide +kernel) (by decide) (fun hb8 => ?_) (fun hb8 => ?_)
        · replace h := zite_f h hb8
          obtain ⟨hg4, h⟩ := zgd_inv h
          refine zblq Hy.1 Hy.2.1 [(.aload 0, 1), (.getfield 1214, 3), (.iload 1, 1), (.iaload, 1), (.iconst 4, 1)] (S' := (48, [(0, .inr (.inr (some (12, 0)))), (1, .inl x1), (2, .inl x2)], [.inl (4 : Int32), .inl (rg M2 1314 0 (nx x1))], zfR M2)) (b := zin x1 10 && true) (by decide +kernel) rfl hg4 ?_
          refine zic_ne Hy.1 (off := 6) (tgt := 54) (by decide +kernel) (by decide) (fun hb7 => ?_) (fun hb7 => ?_)
          · replace h := zite_f h hb7
            obtain ⟨hg5, h⟩ := zgd_inv h
            refine zblq Hy.1 Hy.2.1 [(.iconst 24, 2), (.iload 1, 1), (.imul, 1), (.iconst 6, 2), (.aload 0, 1), (.getfield 1214, 3), (.iload 1, 1), (.iaload, 1), (.imul, 1), (.iadd, 1), (.istore 3, 1), (.aload 0, 1), (.getfield 1215, 3), (.iload 3, 1), (.iconst 0, 1), (.iastore, 1), (.aload 0, 1), (.getfield 1215, 3), (.iload 3, 1), (.iconst 1, 1), (.iadd, 1), (.iload 2, 1), (.iastore, 1), (.aload 0, 1), (.getfield 1214, 3), (.iload 1, 1), (.dup2, 1), (.iaload, 1), (.iconst 1, 1), (.iadd, 1), (.iastore, 1)] (S' := (95, [(0, .inr (.inr (some (12, 0)))), (1, .inl x1), (2, .inl x2), (3, .inl (((24 : Int32) * x1) + ((6 : Int32) * (rg M2 1314 0 (nx x1)))))], [], zfR (rs (rs (rs M2 1315 0 (nx (((24 : Int32) * x1) + ((6 : Int32) * (rg M2 1314 0 (nx x1))))) (0 : Int32)) 1315 0 (nx ((((24 : Int32) * x1) + ((6 : Int32) * (rg M2 1314 0 (nx x1)))) + (1 : Int32))) x2) 1314 0 (nx x1) ((rg (rs (rs M2 1315 0 (nx (((24 : Int32) * x1) + ((6 : Int32) * (rg M2 1314 0 (nx x1))))) (0 : Int32)) 1315 0 (nx ((((24 : Int32) * x1) + ((6 : Int32) * (rg M2 1314 0 (nx x1)))) + (1 : Int32))) x2) 1314 0 (nx x1)) + (1 : Int32))))) (b := zin x1 10 && (zin (((24 : Int32) * x1) + ((6 : Int32) * (rg M2 1314 0 (nx x1)))) 240 && (zin ((((24 : Int32) * x1) + ((6 : Int32) * (rg M2 1314 0 (nx x1)))) + (1 : Int32)) 240 && (zin x1 10 && (zin x1 10 && true))))) (by decide +kernel) rfl hg5 ?_
            refine zGo_keep [0, 1] rfl ?_
            exact m12_say_95_ok Hy hE x1 (rs (rs (rs M2 1315 0 (nx (((24 : Int32) * x1) + ((6 : Int32) * (rg M2 1314 0 (nx x1))))) (0 : Int32)) 1315 0 (nx ((((24 : Int32) * x1) + ((6 : Int32) * (rg M2 1314 0 (nx x1)))) + (1 : Int32))) x2) 1314 0 (nx x1) ((rg (rs (rs M2 1315 0 (nx (((24 : Int32) * x1) + ((6 : Int32) * (rg M2 1314 0 (nx x1))))) (0 : Int32)) 1315 0 (nx ((((24 : Int32) * x1) + ((6 : Int32) * (rg M2 1314 0 (nx x1)))) + (1 : Int32))) x2) 1314 0 (nx x1)) + (1 : Int32))) h
          · replace h := zite_t h hb7
            refine zblq Hy.1 Hy.2.1 [(.iconst (-5), 2)] (S' := (53, [(0, .inr (.inr (some (12, 0)))), (1, .inl x1), (2, .inl x2)], [.inl (-5 : Int32)], zfR M2)) (b := true) (by decide +kernel) rfl rfl ?_
            cases h
            exact zret_i Hy.1 Hy.2.2 hE (by decide +kernel)
        · replace h := zite_t h hb8
          refine zblq Hy.1 Hy.2.1 [(.iconst (-4), 2)] (S' := (40, [(0, .inr (.inr (some (12, 0)))), (1, .inl x1), (2, .inl x2)], [.inl (-4 : Int32)], zfR M2)) (b := true) (by decide +kernel) rfl rfl ?_
          cases h
          exact zret_i Hy.1 Hy.2.2 hE (by decide +kernel)
    · replace h := zite_t h hb10
      refine zblq Hy.1 Hy.2.1 [(.iconst (-3), 2)] (S' := (24, [(0, .inr (.inr (some (12, 0)))), (1, .inl x1), (2, .inl x2)], [.inl (-3 : Int32)], zfR M2)) (b := true) (by decide +kernel) rfl rfl ?_
      cases h
      exact zret_i Hy.1 Hy.2.2 hE (by decide +kernel)
  · replace h := zite_t h hb11
    refine zblq Hy.1 Hy.2.1 [(.iconst (-2), 2)] (S' := (10, [(0, .inr (.inr (some (12, 0)))), (1, .inl x1), (2, .inl x2)], [.inl (-2 : Int32)], zfR M1)) (b := true) (by decide +kernel) rfl rfl ?_
    cases h
    exact zret_i Hy.1 Hy.2.2 hE (by decide +kernel)
theorem m12_say_met {l : Launch} {G : zG} (hG : zGok G) (hcn : zgcn G = zcR) {x1 : Int32} {x2 : Int32} {M : rM} {r : Int32} {M' : rM} (h : m12_say x1 x2 M = some (r, M')) : zMet l G yX12_say cX12_say 4 (some .int) 2 43 [.inr (.inr (some (12, 0))), .inl x1, .inl x2] (zfR M) (some (.inl r)) (zfR M') :=
  zMet_of hG tbX12_ok rfl (by decide +kernel) (Nat.le_of_ble_eq_true rfl) (fun X _ Z hA hE => m12_say_ok ⟨Z, hcn, hA⟩ hE x1 x2 M h)
abbrev q12_spend : ByteArray × Nat × String × zT := (cX12_spend, 3, RX12, tbX12)
def m12_spend_27 (t1 : Int32) (t2 : Int32) (M : rM) : Option rM := zgd (zin t1 10 && true) (some (rs M 1302 0 (nx t1) t2))
theorem m12_spend_27_ok {X : zX} {G : zG} (Hy : zHy X G q12_spend zcR 0 0 (none)) {M' : rM} (hE : zEnd X G (none) (zfR M')) (t1 : Int32) (t2 : Int32) (M : rM) (h : m12_spend_27 t1 t2 M = some M') : zGo (X, q12_spend, G) 0 0 (27, [], [.inl t2, .inl t1, .inr (.inr (some (1302, 0)))], zfR M) := by
  unfold m12_spend_27 at h
  obtain ⟨hg3, h⟩ := zgd_inv h
  refine zblq Hy.1 Hy.2.1 [(.iastore, 1)] (S' := (28, [], [], zfR (rs M 1302 0 (nx t1) t2))) (b := zin t1 10 && true) (by decide +kernel) rfl hg3 ?_
  cases h
  exact zret_v Hy.1 Hy.2.2 hE (by decide +kernel)
def m12_spend (x1 : Int32) (x2 : Int32) (M : rM) : Option rM := zgd (zin x1 10 && true) ((if x2 ≤ (rg M 1302 0 (nx x1)) then zgd (zin x1 10 && true) (m12_spend_27 x1 ((rg M 1302 0 (nx x1)) - x2) M) else m12_spend_27 x1 (0 : Int32) M))
theorem m12_spend_ok {X : zX} {G : zG} (Hy : zHy X G q12_spend zcR 0 0 (none)) {M' : rM} (hE : zEnd X G (none) (zfR M')) (x1 : Int32) (x2 : Int32) (M : rM) (h : m12_spend x1 x2 M = some M') : zGo (X, q12_spend, G) 0 0 (0, [(0, .inr (.inr (some (12, 0)))), (1, .inl x1), (2, .inl x2)], [], zfR M) := by
  unfold m12_spend at h
  obtain ⟨hg1, h⟩ := zgd_inv h
  refine zblq Hy.1 Hy.2.1 [(.aload 0, 1), (.getfield 1202, 3), (.iload 1, 1), (.iload 2, 1), (.aload 0, 1), (.getfield 1202, 3), (.iload 1, 1), (.iaload, 1)] (S' := (12, [(0, .inr (.inr (some (12, 0)))), (1, .inl x1), (2, .inl x2)], [.inl (rg M 1302 0 (nx x1)), .inl x2, .inl x1, .inr (.inr (some (1302, 0)))], zfR M)) (b := zin x1 10 && true) (by decide +kernel) rfl hg1 ?_
  refine zic_le Hy.1 (off := 7) (tgt := 19) (by decide +kernel) (by decide) (fun hb4 => ?_) (fun hb4 => ?_)
  · replace h := zite_t h hb4
    obtain ⟨hg2, h⟩ := zgd_inv h
    refine zblq Hy.1 Hy.2.1 [(.aload 0, 1), (.getfield 1202, 3), (.iload 1, 1), (.iaload, 1), (.iload 2, 1), (.isub, 1)] (S' := (27, [(0, .inr (.inr (some (12, 0)))), (1, .inl x1), (2, .inl x2)], [.inl ((rg M 1302 0 (nx x1)) - x2), .inl x1, .inr (.inr (some (1302, 0)))], zfR M)) (b := zin x1 10 && true) (by decide +kernel) rfl hg2 ?_
    refine zGo_keep [] rfl ?_
    exact m12_spend_27_ok Hy hE x1 ((rg M 1302 0 (nx x1)) - x2) M h
  · replace h := zite_f h hb4
    refine zblq Hy.1 Hy.2.1 [(.iconst 0, 1), (.ldc 27, 3)] (S' := (27, [(0, .inr (.inr (some (12, 0)))), (1, .inl x1), (2, .inl x2)], [.inl (0 : Int32), .inl x1, .inr (.inr (some (1302, 0)))], zfR M)) (b := true) (by decide +kernel) rfl rfl ?_
    refine zGo_keep [] rfl ?_
    exact m12_spend_27_ok Hy hE x1 (0 : Int32) M h
theorem m12_spend_met {l : Launch} {G : zG} (hG : zGok G) (hcn : zgcn G = zcR) {x1 : Int32} {x2 : Int32} {M : rM} {M' : rM} (h : m12_spend x1 x2 M = some M') : zMet l G yX12_spend cX12_spend 3 (none) 0 0 [.inr (.inr (some (12, 0))), .inl x1, .inl x2] (zfR M) (none) (zfR M') :=
  zMet_of hG tbX12_ok rfl (by decide +kernel) (Nat.le_of_ble_eq_true rfl) (fun X _ Z hA hE => m12_spend_ok ⟨Z, hcn, hA⟩ hE x1 x2 M h)
abbrev q12_emptySum : ByteArray × Nat × String × zT := (cX12_emptySum, 3, RX12, tbX12)
def m12_emptySum_2 : Nat → Int32 → Int32 → rM → Option rM
  | 0, _, _, _ => none
  | n + 1, x1, x2, M => (if (5 : Int32) ≤ x2 then some M else zgd (zin (((5 : Int32) * x1) + x2) 55 && true) ((m12_emptySum_2 n) x1 (x2 + (1 : Int32)) (rs M 1316 0 (nx (((5 : Int32) * x1) + x2)) (0 : Int32))))
theorem m12_emptySum_2_ok {X : zX} {G : zG} (Hy : zHy X G q12_emptySum zcR 0 0 (none)) {M' : rM} (hE : zEnd X G (none) (zfR M')) : ∀ (n : Nat) (x1 : Int32) (x2 : Int32) (M : rM), m12_emptySum_2 n x1 x2 M = some M' → zGo (X, q12_emptySum, G) 0 0 (2, [(0, .inr (.inr (some (12, 0)))), (1, .inl x1), (2, .inl x2)], [], zfR M) := by
  intro n
  induction n with
  | zero => intro x1 x2 M h; cases h
  | succ n ih =>
    intro x1 x2 M h
    unfold m12_emptySum_2 at h
    refine zblq Hy.1 Hy.2.1 [(.iload 2, 1), (.iconst 5, 1)] (S' := (4, [(0, .inr (.inr (some (12, 0)))), (1, .inl x1), (2, .inl x2)], [.inl (5 : Int32), .inl x2], zfR M)) (b := true) (by decide +kernel) rfl rfl ?_
    refine zic_ge Hy.1 (off := 20) (tgt := 24) (by decide +kernel) (by decide) (fun hb2 => ?_) (fun hb2 => ?_)
    · replace h := zite_t h hb2
      cases h
      exact zret_v Hy.1 Hy.2.2 hE (by decide +kernel)
    · replace h := zite_f h hb2
      obtain ⟨hg1, h⟩ := zgd_inv h
      refine zblq Hy.1 Hy.2.1 [(.aload 0, 1), (.getfield 1216, 3), (.iconst 5, 1), (.iload 1, 1), (.imul, 1), (.iload 2, 1), (.iadd, 1), (.iconst 0, 1), (.iastore, 1), (.iinc 2 1, 3), (.ldc 2, 3)] (S' := (2, [(0, .inr (.inr (some (12, 0)))), (1, .inl x1), (2, .inl (x2 + (1 : Int32)))], [], zfR (rs M 1316 0 (nx (((5 : Int32) * x1) + x2)) (0 : Int32)))) (b := zin (((5 : Int32) * x1) + x2) 55 && true) (by decide +kernel) rfl hg1 ?_
      refine zGo_keep [0, 1, 2] rfl ?_
      exact ih x1 (x2 + (1 : Int32)) (rs M 1316 0 (nx (((5 : Int32) * x1) + x2)) (0 : Int32)) h
def m12_emptySum (x1 : Int32) (M : rM) : Option rM := m12_emptySum_2 zfu x1 (0 : Int32) M
theorem m12_emptySum_ok {X : zX} {G : zG} (Hy : zHy X G q12_emptySum zcR 0 0 (none)) {M' : rM} (hE : zEnd X G (none) (zfR M')) (x1 : Int32) (M : rM) (h : m12_emptySum x1 M = some M') : zGo (X, q12_emptySum, G) 0 0 (0, [(0, .inr (.inr (some (12, 0)))), (1, .inl x1)], [], zfR M) := by
  unfold m12_emptySum at h
  refine zblq Hy.1 Hy.2.1 [(.iconst 0, 1), (.istore 2, 1)] (S' := (2, [(0, .inr (.inr (some (12, 0)))), (1, .inl x1), (2, .inl (0 : Int32))], [], zfR M)) (b := true) (by decide +kernel) rfl rfl ?_
  refine zGo_keep [0, 1, 2] rfl ?_
  exact m12_emptySum_2_ok Hy hE zfu x1 (0 : Int32) M h
theorem m12_emptySum_met {l : Launch} {G : zG} (hG : zGok G) (hcn : zgcn G = zcR) {x1 : Int32} {M : rM} {M' : rM} (h : m12_emptySum x1 M = some M') : zMet l G yX12_emptySum cX12_emptySum 3 (none) 0 0 [.inr (.inr (some (12, 0))), .inl x1] (zfR M) (none) (zfR M') :=
  zMet_of hG tbX12_ok rfl (by decide +kernel) (Nat.le_of_ble_eq_true rfl) (fun X _ Z hA hE => m12_emptySum_ok ⟨Z, hcn, hA⟩ hE x1 M h)
abbrev q12_join : ByteArray × Nat × String × zT := (cX12_join, 9, RX12, tbX12)
def m12_join_126 (x6 : Int32) (x7 : Int32) (M : rM) : Option rM := zgd (zin (x7 + (4 : Int32)) 55 && (zin (x7 + (4 : Int32)) 55 && true)) (some (rs M 1316 0 (nx (x7 + (4 : Int32))) ((rg M 1316 0 (nx (x7 + (4 : Int32)))) ||| x6)))
theorem m12_join_126_ok {X : zX} {G : zG} (Hy : zHy X G q12_join zcR 0 0 (none)) {M' : rM} (hE : zEnd X G (none) (zfR M')) (x6 : Int32) (x7 : Int32) (M : rM) (h : m12_join_126 x6 x7 M = some M') : zGo (X, q12_join, G) 0 0 (126, [(0, .inr (.inr (some (12, 0)))), (6, .inl x6), (7, .inl x7)], [], zfR M) := by
  unfold m12_join_126 at h
  obtain ⟨hg4, h⟩ := zgd_inv h
  refine zblq Hy.1 Hy.2.1 [(.aload 0, 1), (.getfield 1216, 3), (.iload 7, 2), (.iconst 4, 1), (.iadd, 1), (.aload 0, 1), (.getfield 1216, 3), (.iload 7, 2), (.iconst 4, 1), (.iadd, 1), (.iaload, 1), (.iload 6, 2), (.ior, 1), (.iastore, 1)] (S' := (147, [(0, .inr (.inr (some (12, 0)))), (6, .inl x6), (7, .inl x7)], [], zfR (rs M 1316 0 (nx (x7 + (4 : Int32))) ((rg M 1316 0 (nx (x7 + (4 : Int32)))) ||| x6)))) (b := zin (x7 + (4 : Int32)) 55 && (zin (x7 + (4 : Int32)) 55 && true)) (by decide +kernel) rfl hg4 ?_
  cases h
  exact zret_v Hy.1 Hy.2.2 hE (by decide +kernel)
def m12_join_97 (x4 : Int32) (x5 : Int32) (x6 : Int32) (x7 : Int32) (t1 : Int32) (t2 : Int32) (M : rM) : Option rM := zgd (zin t1 55 && (zin (x7 + (2 : Int32)) 55 && (zin (x7 + (2 : Int32)) 55 && (zin (x7 + (3 : Int32)) 55 && (zin (x7 + (3 : Int32)) 55 && true))))) (m12_join_126 x6 x7 (rs (rs (rs M 1316 0 (nx t1) t2) 1316 0 (nx (x7 + (2 : Int32))) ((rg (rs M 1316 0 (nx t1) t2) 1316 0 (nx (x7 + (2 : Int32)))) + x4)) 1316 0 (nx (x7 + (3 : Int32))) ((rg (rs (rs M 1316 0 (nx t1) t2) 1316 0 (nx (x7 + (2 : Int32))) ((rg (rs M 1316 0 (nx t1) t2) 1316 0 (nx (x7 + (2 : Int32)))) + x4)) 1316 0 (nx (x7 + (3 : Int32)))) + x5)))
theorem m12_join_97_ok {X : zX} {G : zG} (Hy : zHy X G q12_join zcR 0 0 (none)) {M' : rM} (hE : zEnd X G (none) (zfR M')) (x4 : Int32) (x5 : Int32) (x6 : Int32) (x7 : Int32) (t1 : Int32) (t2 : Int32) (M : rM) (h : m12_join_97 x4 x5 x6 x7 t1 t2 M = some M') : zGo (X, q12_join, G) 0 0 (97, [(0, .inr (.inr (some (12, 0)))), (4, .inl x4), (5, .inl x5), (6, .inl x6), (7, .inl x7)], [.inl t2, .inl t1, .inr (.inr (some (1316, 0)))], zfR M) := by
  unfold m12_join_97 at h
  obtain ⟨hg3, h⟩ := zgd_inv h
  refine zblq Hy.1 Hy.2.1 [(.iastore, 1), (.aload 0, 1), (.getfield 1216, 3), (.iload 7, 2), (.iconst 2, 1), (.iadd, 1), (.dup2, 1), (.iaload, 1), (.iload 4, 2), (.iadd, 1), (.iastore, 1), (.aload 0, 1), (.getfield 1216, 3), (.iload 7, 2), (.iconst 3, 1), (.iadd, 1), (.dup2, 1), (.iaload, 1), (.iload 5, 2), (.iadd, 1), (.iastore, 1)] (S' := (126, [(0, .inr (.inr (some (12, 0)))), (4, .inl x4), (5, .inl x5), (6, .inl x6), (7, .inl x7)], [], zfR (rs (rs (rs M 1316 0 (nx t1) t2) 1316 0 (nx (x7 + (2 : Int32))) ((rg (rs M 1316 0 (nx t1) t2) 1316 0 (nx (x7 + (2 : Int32)))) + x4)) 1316 0 (nx (x7 + (3 : Int32))) ((rg (rs (rs M 1316 0 (nx t1) t2) 1316 0 (nx (x7 + (2 : Int32))) ((rg (rs M 1316 0 (nx t1) t2) 1316 0 (nx (x7 + (2 : Int32)))) + x4)) 1316 0 (nx (x7 + (3 : Int32)))) + x5)))) (b := zin t1 55 && (zin (x7 + (2 : Int32)) 55 && (zin (x7 + (2 : Int32)) 55 && (zin (x7 + (3 : Int32)) 55 && (zin (x7 + (3 : Int32)) 55 && true))))) (by decide +kernel) rfl hg3 ?_
  refine zGo_keep [0, 6, 7] rfl ?_
  exact m12_join_126_ok Hy hE x6 x7 (rs (rs (rs M 1316 0 (nx t1) t2) 1316 0 (nx (x7 + (2 : Int32))) ((rg (rs M 1316 0 (nx t1) t2) 1316 0 (nx (x7 + (2 : Int32)))) + x4)) 1316 0 (nx (x7 + (3 : Int32))) ((rg (rs (rs M 1316 0 (nx t1) t2) 1316 0 (nx (x7 + (2 : Int32))) ((rg (rs M 1316 0 (nx t1) t2) 1316 0 (nx (x7 + (2 : Int32)))) + x4)) 1316 0 (nx (x7 + (3 : Int32)))) + x5)) h
def m12_join_57 (x3 : Int32) (x4 : Int32) (x5 : Int32) (x6 : Int32) (x7 : Int32) (x8 : Int32) (t1 : Int32) (t2 : Int32) (M : rM) : Option rM := zgd (zin t1 55 && true) ((if x8 = 0 then zgd (zin (x7 + (1 : Int32)) 55 && true) ((if x3 ≤ (rg (rs M 1316 0 (nx t1) t2) 1316 0 (nx (x7 + (1 : Int32)))) then zgd (zin (x7 + (1 : Int32)) 55 && true) (m12_join_97 x4 x5 x6 x7 (x7 + (1 : Int32)) (rg (rs M 1316 0 (nx t1) t2) 1316 0 (nx (x7 + (1 : Int32)))) (rs M 1316 0 (nx t1) t2)) else m12_join_97 x4 x5 x6 x7 (x7 + (1 : Int32)) x3 (rs M 1316 0 (nx t1) t2))) else m12_join_97 x4 x5 x6 x7 (x7 + (1 : Int32)) x3 (rs M 1316 0 (nx t1) t2)))
theorem m12_join_57_ok {X : zX} {G : zG} (Hy : zHy X G q12_join zcR 0 0 (none)) {M' : rM} (hE : zEnd X G (none) (zfR M')) (x3 : Int32) (x4 : Int32) (x5 : Int32) (x6 : Int32) (x7 : Int32) (x8 : Int32) (t1 : Int32) (t2 : Int32) (M : rM) (h : m12_join_57 x3 x4 x5 x6 x7 x8 t1 t2 M = some M') : zGo (X, q12_join, G) 0 0 (57, [(0, .inr (.inr (some (12, 0)))), (3, .inl x3), (4, .inl x4), (5, .inl x5), (6, .inl x6), (7, .inl x7), (8, .inl x8)], [.inl t2, .inl t1, .inr (.inr (some (1316, 0)))], zfR M) := by
  unfold m12_join_57 at h
  obtain ⟨hg2, h⟩ := zgd_inv h
  refine zblq Hy.1 Hy.2.1 [(.iastore, 1), (.aload 0, 1), (.getfield 1216, 3), (.iload 7, 2), (.iconst 1, 1), (.iadd, 1), (.iload 8, 2)] (S' := (68, [(0, .inr (.inr (some (12, 0)))), (3, .inl x3), (4, .inl x4), (5, .inl x5), (6, .inl x6), (7, .inl x7), (8, .inl x8)], [.inl x8, .inl (x7 + (1 : Int32)), .inr (.inr (some (1316, 0)))], zfR (rs M 1316 0 (nx t1) t2))) (b := zin t1 55 && true) (by decide +kernel) rfl hg2 ?_
  refine zif_ne Hy.1 (off := 16) (tgt := 84) (by decide +kernel) (by decide) (fun hb8 => ?_) (fun hb8 => ?_)
  · replace h := zite_f h hb8
    refine zblq Hy.1 Hy.2.1 [(.iload 3, 1), (.ldc 97, 3)] (S' := (97, [(0, .inr (.inr (some (12, 0)))), (3, .inl x3), (4, .inl x4), (5, .inl x5), (6, .inl x6), (7, .inl x7), (8, .inl x8)], [.inl x3, .inl (x7 + (1 : Int32)), .inr (.inr (some (1316, 0)))], zfR (rs M 1316 0 (nx t1) t2))) (b := true) (by decide +kernel) rfl rfl ?_
    refine zGo_keep [0, 4, 5, 6, 7] rfl ?_
    exact m12_join_97_ok Hy hE x4 x5 x6 x7 (x7 + (1 : Int32)) x3 (rs M 1316 0 (nx t1) t2) h
  · replace h := zite_t h hb8
    obtain ⟨hg5, h⟩ := zgd_inv h
    refine zblq Hy.1 Hy.2.1 [(.iload 3, 1), (.aload 0, 1), (.getfield 1216, 3), (.iload 7, 2), (.iconst 1, 1), (.iadd, 1), (.iaload, 1)] (S' := (81, [(0, .inr (.inr (some (12, 0)))), (3, .inl x3), (4, .inl x4), (5, .inl x5), (6, .inl x6), (7, .inl x7), (8, .inl x8)], [.inl (rg (rs M 1316 0 (nx t1) t2) 1316 0 (nx (x7 + (1 : Int32)))), .inl x3, .inl (x7 + (1 : Int32)), .inr (.inr (some (1316, 0)))], zfR (rs M 1316 0 (nx t1) t2))) (b := zin (x7 + (1 : Int32)) 55 && true) (by decide +kernel) rfl hg5 ?_
    refine zic_le Hy.1 (off := 7) (tgt := 88) (by decide +kernel) (by decide) (fun hb7 => ?_) (fun hb7 => ?_)
    · replace h := zite_t h hb7
      obtain ⟨hg6, h⟩ := zgd_inv h
      refine zblq Hy.1 Hy.2.1 [(.aload 0, 1), (.getfield 1216, 3), (.iload 7, 2), (.iconst 1, 1), (.iadd, 1), (.iaload, 1)] (S' := (97, [(0, .inr (.inr (some (12, 0)))), (3, .inl x3), (4, .inl x4), (5, .inl x5), (6, .inl x6), (7, .inl x7), (8, .inl x8)], [.inl (rg (rs M 1316 0 (nx t1) t2) 1316 0 (nx (x7 + (1 : Int32)))), .inl (x7 + (1 : Int32)), .inr (.inr (some (1316, 0)))], zfR (rs M 1316 0 (nx t1) t2))) (b := zin (x7 + (1 : Int32)) 55 && true) (by decide +kernel) rfl hg6 ?_
      refine zGo_keep [0, 4, 5, 6, 7] rfl ?_
      exact m12_join_97_ok Hy hE x4 x5 x6 x7 (x7 + (1 : Int32)) (rg (rs M 1316 0 (nx t1) t2) 1316 0 (nx (x7 + (1 : Int32)))) (rs M 1316 0 (nx t1) t2) h
    · replace h := zite_f h hb7
      refine zblq Hy.1 Hy.2.1 [(.iload 3, 1), (.ldc 97, 3)] (S' := (97, [(0, .inr (.inr (some (12, 0)))), (3, .inl x3), (4, .inl x4), (5, .inl x5), (6, .inl x6), (7, .inl x7), (8, .inl x8)], [.inl x3, .inl (x7 + (1 : Int32)), .inr (.inr (some (1316, 0)))], zfR (rs M 1316 0 (nx t1) t2))) (b := true) (by decide +kernel) rfl rfl ?_
      refine zGo_keep [0, 4, 5, 6, 7] rfl ?_
      exact m12_join_97_ok Hy hE x4 x5 x6 x7 (x7 + (1 : Int32)) x3 (rs M 1316 0 (nx t1) t2) h
def m12_join_22 (x2 : Int32) (x3 : Int32) (x4 : Int32) (x5 : Int32) (x6 : Int32) (x7 : Int32) (t0 : Int32) (M : rM) : Option rM := (if t0 = 0 then zgd (zin x7 55 && true) ((if (rg M 1316 0 (nx x7)) ≤ x2 then zgd (zin x7 55 && true) (m12_join_57 x3 x4 x5 x6 x7 t0 x7 (rg M 1316 0 (nx x7)) M) else m12_join_57 x3 x4 x5 x6 x7 t0 x7 x2 M)) else m12_join_57 x3 x4 x5 x6 x7 t0 x7 x2 M)
theorem m12_join_22_ok {X : zX} {G : zG} (Hy : zHy X G q12_join zcR 0 0 (none)) {M' : rM} (hE : zEnd X G (none) (zfR M')) (x2 : Int32) (x3 : Int32) (x4 : Int32) (x5 : Int32) (x6 : Int32) (x7 : Int32) (t0 : Int32) (M : rM) (h : m12_join_22 x2 x3 x4 x5 x6 x7 t0 M = some M') : zGo (X, q12_join, G) 0 0 (22, [(0, .inr (.inr (some (12, 0)))), (2, .inl x2), (3, .inl x3), (4, .inl x4), (5, .inl x5), (6, .inl x6), (7, .inl x7)], [.inl t0], zfR M) := by
  unfold m12_join_22 at h
  refine zblq Hy.1 Hy.2.1 [(.istore 8, 2), (.aload 0, 1), (.getfield 1216, 3), (.iload 7, 2), (.iload 8, 2)] (S' := (32, [(0, .inr (.inr (some (12, 0)))), (2, .inl x2), (3, .inl x3), (4, .inl x4), (5, .inl x5), (6, .inl x6), (7, .inl x7), (8, .inl t0)], [.inl t0, .inl x7, .inr (.inr (some (1316, 0)))], zfR M)) (b := true) (by decide +kernel) rfl rfl ?_
  refine zif_ne Hy.1 (off := 14) (tgt := 46) (by decide +kernel) (by decide) (fun hb12 => ?_) (fun hb12 => ?_)
  · replace h := zite_f h hb12
    refine zblq Hy.1 Hy.2.1 [(.iload 2, 1), (.ldc 57, 3)] (S' := (57, [(0, .inr (.inr (some (12, 0)))), (2, .inl x2), (3, .inl x3), (4, .inl x4), (5, .inl x5), (6, .inl x6), (7, .inl x7), (8, .inl t0)], [.inl x2, .inl x7, .inr (.inr (some (1316, 0)))], zfR M)) (b := true) (by decide +kernel) rfl rfl ?_
    refine zGo_keep [0, 3, 4, 5, 6, 7, 8] rfl ?_
    exact m12_join_57_ok Hy hE x3 x4 x5 x6 x7 t0 x7 x2 M h
  · replace h := zite_t h hb12
    obtain ⟨hg9, h⟩ := zgd_inv h
    refine zblq Hy.1 Hy.2.1 [(.iload 2, 1), (.aload 0, 1), (.getfield 1216, 3), (.iload 7, 2), (.iaload, 1)] (S' := (43, [(0, .inr (.inr (some (12, 0)))), (2, .inl x2), (3, .inl x3), (4, .inl x4), (5, .inl x5), (6, .inl x6), (7, .inl x7), (8, .inl t0)], [.inl (rg M 1316 0 (nx x7)), .inl x2, .inl x7, .inr (.inr (some (1316, 0)))], zfR M)) (b := zin x7 55 && true) (by decide +kernel) rfl hg9 ?_
    refine zic_ge Hy.1 (off := 7) (tgt := 50) (by decide +kernel) (by decide) (fun hb11 => ?_) (fun hb11 => ?_)
    · replace h := zite_t h hb11
      obtain ⟨hg10, h⟩ := zgd_inv h
      refine zblq Hy.1 Hy.2.1 [(.aload 0, 1), (.getfield 1216, 3), (.iload 7, 2), (.iaload, 1)] (S' := (57, [(0, .inr (.inr (some (12, 0)))), (2, .inl x2), (3, .inl x3), (4, .inl x4), (5, .inl x5), (6, .inl x6), (7, .inl x7), (8, .inl t0)], [.inl (rg M 1316 0 (nx x7)), .inl x7, .inr (.inr (some (1316, 0)))], zfR M)) (b := zin x7 55 && true) (by decide +kernel) rfl hg10 ?_
      refine zGo_keep [0, 3, 4, 5, 6, 7, 8] rfl ?_
      exact m12_join_57_ok Hy hE x3 x4 x5 x6 x7 t0 x7 (rg M 1316 0 (nx x7)) M h
    · replace h := zite_f h hb11
      refine zblq Hy.1 Hy.2.1 [(.iload 2, 1), (.ldc 57, 3)] (S' := (57, [(0, .inr (.inr (some (12, 0)))), (2, .inl x2), (3, .inl x3), (4, .inl x4), (5, .inl x5), (6, .inl x6), (7, .inl x7), (8, .inl t0)], [.inl x2, .inl x7, .inr (.inr (some (1316, 0)))], zfR M)) (b := true) (by decide +kernel) rfl rfl ?_
      refine zGo_keep [0, 3, 4, 5, 6, 7, 8] rfl ?_
      exact m12_join_57_ok Hy hE x3 x4 x5 x6 x7 t0 x7 x2 M h
def m12_join (x1 : Int32) (x2 : Int32) (x3 : Int32) (x4 : Int32) (x5 : Int32) (x6 : Int32) (M : rM) : Option rM := zgd (zin (((5 : Int32) * x1) + (2 : Int32)) 55 && true) ((if (rg M 1316 0 (nx (((5 : Int32) * x1) + (2 : Int32)))) = 0 then m12_join_22 x2 x3 x4 x5 x6 ((5 : Int32) * x1) (1 : Int32) M else m12_join_22 x2 x3 x4 x5 x6 ((5 : Int32) * x1) (0 : Int32) M))
theorem m12_join_ok {X : zX} {G : zG} (Hy : zHy X G q12_join zcR 0 0 (none)) {M' : rM} (hE : zEnd X G (none) (zfR M')) (x1 : Int32) (x2 : Int32) (x3 : Int32) (x4 : Int32) (x5 : Int32) (x6 : Int32) (M : rM) (h : m12_join x1 x2 x3 x4 x5 x6 M = some M') : zGo (X, q12_join, G) 0 0 (0, [(0, .inr (.inr (some (12, 0)))), (1, .inl x1), (2, .inl x2), (3, .inl x3), (4, .inl x4), (5, .inl x5), (6, .inl x6)], [], zfR M) := by
  unfold m12_join at h
  obtain ⟨hg1, h⟩ := zgd_inv h
  refine zblq Hy.1 Hy.2.1 [(.iconst 5, 1), (.iload 1, 1), (.imul, 1), (.istore 7, 2), (.aload 0, 1), (.getfield 1216, 3), (.iload 7, 2), (.iconst 2, 1), (.iadd, 1), (.iaload, 1)] (S' := (14, [(0, .inr (.inr (some (12, 0)))), (1, .inl x1), (2, .inl x2), (3, .inl x3), (4, .inl x4), (5, .inl x5), (6, .inl x6), (7, .inl ((5 : Int32) * x1))], [.inl (rg M 1316 0 (nx (((5 : Int32) * x1) + (2 : Int32))))], zfR M)) (b := zin (((5 : Int32) * x1) + (2 : Int32)) 55 && true) (by decide +kernel) rfl hg1 ?_
  refine zif_ne Hy.1 (off := 7) (tgt := 21) (by decide +kernel) (by decide) (fun hb13 => ?_) (fun hb13 => ?_)
  · replace h := zite_f h hb13
    refine zblq Hy.1 Hy.2.1 [(.iconst 0, 1)] (S' := (22, [(0, .inr (.inr (some (12, 0)))), (1, .inl x1), (2, .inl x2), (3, .inl x3), (4, .inl x4), (5, .inl x5), (6, .inl x6), (7, .inl ((5 : Int32) * x1))], [.inl (0 : Int32)], zfR M)) (b := true) (by decide +kernel) rfl rfl ?_
    refine zGo_keep [0, 2, 3, 4, 5, 6, 7] rfl ?_
    exact m12_join_22_ok Hy hE x2 x3 x4 x5 x6 ((5 : Int32) * x1) (0 : Int32) M h
  · replace h := zite_t h hb13
    refine zblq Hy.1 Hy.2.1 [(.iconst 1, 1), (.ldc 22, 3)] (S' := (22, [(0, .inr (.inr (some (12, 0)))), (1, .inl x1), (2, .inl x2), (3, .inl x3), (4, .inl x4), (5, .inl x5), (6, .inl x6), (7, .inl ((5 : Int32) * x1))], [.inl (1 : Int32)], zfR M)) (b := true) (by decide +kernel) rfl rfl ?_
    refine zGo_keep [0, 2, 3, 4, 5, 6, 7] rfl ?_
    exact m12_join_22_ok Hy hE x2 x3 x4 x5 x6 ((5 : Int32) * x1) (1 : Int32) M h
theorem m12_join_met {l : Launch} {G : zG} (hG : zGok G) (hcn : zgcn G = zcR) {x1 : Int32} {x2 : Int32} {x3 : Int32} {x4 : Int32} {x5 : Int32} {x6 : Int32} {M : rM} {M' : rM} (h : m12_join x1 x2 x3 x4 x5 x6 M = some M') : zMet l G yX12_join cX12_join 9 (none) 0 0 [.inr (.inr (some (12, 0))), .inl x1, .inl x2, .inl x3, .inl x4, .inl x5, .inl x6] (zfR M) (none) (zfR M') :=
  zMet_of hG tbX12_ok rfl (by decide +kernel) (Nat.le_of_ble_eq_true rfl) (fun X _ Z hA hE => m12_join_ok ⟨Z, hcn, hA⟩ hE x1 x2 x3 x4 x5 x6 M h)
abbrev q12_takeSums : ByteArray × Nat × String × zT := (cX12_takeSums, 5, RX12, tbX12)
def m12_takeSums_103 (k4 : Int32 → Int32 → rM → Option (Int32 × rM)) (k17 : Int32 → Int32 → Int32 → Int32 → rM → Option (Int32 × rM)) (x1 : Int32) (x2 : Int32) (x3 : Int32) (x4 : Int32) (M : rM) : Option (Int32 × rM) := k17 x1 x2 x3 (x4 + (1 : Int32)) M
theorem m12_takeSums_103_ok {X : zX} {G : zG} (Hy : zHy X G q12_takeSums zcR 0 0 (some .int)) {r : Int32} {M' : rM} (hE : zEnd X G (some (.inl r)) (zfR M')) {k4 : Int32 → Int32 → rM → Option (Int32 × rM)} (hk4 : ∀ (x1 : Int32) (x2 : Int32) (M : rM), k4 x1 x2 M = some (r, M') → zGo (X, q12_takeSums, G) 0 0 (4, [(0, .inr (.inr (some (12, 0)))), (1, .inl x1), (2, .inl x2)], [], zfR M)) {k17 : Int32 → Int32 → Int32 → Int32 → rM → Option (Int32 × rM)} (hk17 : ∀ (x1 : Int32) (x2 : Int32) (x3 : Int32) (x4 : Int32) (M : rM), k17 x1 x2 x3 x4 M = some (r, M') → zGo (X, q12_takeSums, G) 0 0 (17, [(0, .inr (.inr (some (12, 0)))), (1, .inl x1), (2, .inl x2), (3, .inl x3), (4, .inl x4)], [], zfR M)) (x1 : Int32) (x2 : Int32) (x3 : Int32) (x4 : Int32) (M : rM) (h : m12_takeSums_103 k4 k17 x1 x2 x3 x4 M = some (r, M')) : zGo (X, q12_takeSums, G) 0 0 (103, [(0, .inr (.inr (some (12, 0)))), (1, .inl x1), (2, .inl x2), (3, .inl x3), (4, .inl x4)], [], zfR M) := by
  unfold m12_takeSums_103 at h
  refine zblq Hy.1 Hy.2.1 [(.iinc 4 1, 3), (.ldc 17, 3)] (S' := (17, [(0, .inr (.inr (some (12, 0)))), (1, .inl x1), (2, .inl x2), (3, .inl x3), (4, .inl (x4 + (1 : Int32)))], [], zfR M)) (b := true) (by decide +kernel) rfl rfl ?_
  refine zGo_keep [0, 1, 2, 3, 4] rfl ?_
  exact hk17 x1 x2 x3 (x4 + (1 : Int32)) M h
def m12_takeSums_94 (k4 : Int32 → Int32 → rM → Option (Int32 × rM)) (k17 : Int32 → Int32 → Int32 → Int32 → rM → Option (Int32 × rM)) (x1 : Int32) (x2 : Int32) (x3 : Int32) (x4 : Int32) (M : rM) : Option (Int32 × rM) := m12_takeSums_103 k4 k17 x1 x2 (x3 + (1 : Int32)) x4 M
theorem m12_takeSums_94_ok {X : zX} {G : zG} (Hy : zHy X G q12_takeSums zcR 0 0 (some .int)) {r : Int32} {M' : rM} (hE : zEnd X G (some (.inl r)) (zfR M')) {k4 : Int32 → Int32 → rM → Option (Int32 × rM)} (hk4 : ∀ (x1 : Int32) (x2 : Int32) (M : rM), k4 x1 x2 M = some (r, M') → zGo (X, q12_takeSums, G) 0 0 (4, [(0, .inr (.inr (some (12, 0)))), (1, .inl x1), (2, .inl x2)], [], zfR M)) {k17 : Int32 → Int32 → Int32 → Int32 → rM → Option (Int32 × rM)} (hk17 : ∀ (x1 : Int32) (x2 : Int32) (x3 : Int32) (x4 : Int32) (M : rM), k17 x1 x2 x3 x4 M = some (r, M') → zGo (X, q12_takeSums, G) 0 0 (17, [(0, .inr (.inr (some (12, 0)))), (1, .inl x1), (2, .inl x2), (3, .inl x3), (4, .inl x4)], [], zfR M)) (x1 : Int32) (x2 : Int32) (x3 : Int32) (x4 : Int32) (M : rM) (h : m12_takeSums_94 k4 k17 x1 x2 x3 x4 M = some (r, M')) : zGo (X, q12_takeSums, G) 0 0 (94, [(0, .inr (.inr (some (12, 0)))), (1, .inl x1), (2, .inl x2), (3, .inl x3), (4, .inl x4)], [], zfR M) := by
  unfold m12_takeSums_94 at h
  refine zblq Hy.1 Hy.2.1 [(.iinc 3 1, 3), (.ldc 103, 3)] (S' := (103, [(0, .inr (.inr (some (12, 0)))), (1, .inl x1), (2, .inl x2), (3, .inl (x3 + (1 : Int32))), (4, .inl x4)], [], zfR M)) (b := true) (by decide +kernel) rfl rfl ?_
  refine zGo_keep [0, 1, 2, 3, 4] rfl ?_
  exact m12_takeSums_103_ok Hy hE hk4 hk17 x1 x2 (x3 + (1 : Int32)) x4 M h
def m12_takeSums_17 (k4 : Int32 → Int32 → rM → Option (Int32 × rM)) : Nat → Int32 → Int32 → Int32 → Int32 → rM → Option (Int32 × rM)
  | 0, _, _, _, _, _ => none
  | n + 1, x1, x2, x3, x4, M => zgd (zin x2 10 && true) ((if (rg M 1314 0 (nx x2)) ≤ x4 then zgd (zin x2 10 && true) (k4 x1 (x2 + (1 : Int32)) (rs M 1314 0 (nx x2) x3)) else zgd (zin (((24 : Int32) * x2) + ((6 : Int32) * x4)) 240 && true) ((if (rg M 1315 0 (nx (((24 : Int32) * x2) + ((6 : Int32) * x4)))) = 0 then zgd (zin (((24 : Int32) * x2) + ((6 : Int32) * x3)) 240 && (zin ((((24 : Int32) * x2) + ((6 : Int32) * x4)) + (1 : Int32)) 240 && (zin ((((24 : Int32) * x2) + ((6 : Int32) * x3)) + (1 : Int32)) 240 && true))) (m12_takeSums_94 k4 (m12_takeSums_17 k4 n) x1 x2 x3 x4 (rs (rs M 1315 0 (nx (((24 : Int32) * x2) + ((6 : Int32) * x3))) (0 : Int32)) 1315 0 (nx ((((24 : Int32) * x2) + ((6 : Int32) * x3)) + (1 : Int32))) (rg (rs M 1315 0 (nx (((24 : Int32) * x2) + ((6 : Int32) * x3))) (0 : Int32)) 1315 0 (nx ((((24 : Int32) * x2) + ((6 : Int32) * x4)) + (1 : Int32)))))) else m12_takeSums_103 k4 (m12_takeSums_17 k4 n) (x1 + (1 : Int32)) x2 x3 x4 M))))
theorem m12_takeSums_17_ok {X : zX} {G : zG} (Hy : zHy X G q12_takeSums zcR 0 0 (some .int)) {r : Int32} {M' : rM} (hE : zEnd X G (some (.inl r)) (zfR M')) {k4 : Int32 → Int32 → rM → Option (Int32 × rM)} (hk4 : ∀ (x1 : Int32) (x2 : Int32) (M : rM), k4 x1 x2 M = some (r, M') → zGo (X, q12_takeSums, G) 0 0 (4, [(0, .inr (.inr (some (12, 0)))), (1, .inl x1), (2, .inl x2)], [], zfR M)) : ∀ (n : Nat) (x1 : Int32) (x2 : Int32) (x3 : Int32) (x4 : Int32) (M : rM), m12_takeSums_17 k4 n x1 x2 x3 x4 M = some (r, M') → zGo (X, q12_takeSums, G) 0 0 (17, [(0, .inr (.inr (some (12, 0)))), (1, .inl x1), (2, .inl x2), (3, .inl x3), (4, .inl x4)], [], zfR M) := by
  intro n
  induction n with
  | zero => intro x1 x2 x3 x4 M h; cases h
  | succ n ih =>
    intro x1 x2 x3 x4 M h
    unfold m12_takeSums_17 at h
    obtain ⟨hg1, h⟩ := zgd_inv h
    refine zblq Hy.1 Hy.2.1 [(.iload 4, 2), (.aload 0, 1), (.getfield 1214, 3), (.iload 2, 1), (.iaload, 1)] (S' := (25, [(0, .inr (.inr (some (12, 0)))), (1, .inl x1), (2, .inl x2), (3, .inl x3), (4, .inl x4)], [.inl (rg M 1314 0 (nx x2)), .inl x4], zfR M)) (b := zin x2 10 && true) (by decide +kernel) rfl hg1 ?_
    refine zic_ge Hy.1 (off := 84) (tgt := 109) (by decide +kernel) (by decide) (fun hb6 => ?_) (fun hb6 => ?_)
    · replace h := zite_t h hb6
      obtain ⟨hg2, h⟩ := zgd_inv h
      refine zblq Hy.1 Hy.2.1 [(.aload 0, 1), (.getfield 1214, 3), (.iload 2, 1), (.iload 3, 1), (.iastore, 1), (.iinc 2 1, 3), (.ldc 4, 3)] (S' := (4, [(0, .inr (.inr (some (12, 0)))), (1, .inl x1), (2, .inl (x2 + (1 : Int32))), (3, .inl x3), (4, .inl x4)], [], zfR (rs M 1314 0 (nx x2) x3))) (b := zin x2 10 && true) (by decide +kernel) rfl hg2 ?_
      refine zGo_keep [0, 1, 2] rfl ?_
      exact hk4 x1 (x2 + (1 : Int32)) (rs M 1314 0 (nx x2) x3) h
    · replace h := zite_f h hb6
      obtain ⟨hg3, h⟩ := zgd_inv h
      refine zblq Hy.1 Hy.2.1 [(.aload 0, 1), (.getfield 1215, 3), (.iconst 24, 2), (.iload 2, 1), (.imul, 1), (.iconst 6, 2), (.iload 4, 2), (.imul, 1), (.iadd, 1), (.iaload, 1)] (S' := (43, [(0, .inr (.inr (some (12, 0)))), (1, .inl x1), (2, .inl x2), (3, .inl x3), (4, .inl x4)], [.inl (rg M 1315 0 (nx (((24 : Int32) * x2) + ((6 : Int32) * x4))))], zfR M)) (b := zin (((24 : Int32) * x2) + ((6 : Int32) * x4)) 240 && true) (by decide +kernel) rfl hg3 ?_
      refine zif_ne Hy.1 (off := 57) (tgt := 100) (by decide +kernel) (by decide) (fun hb5 => ?_) (fun hb5 => ?_)
      · replace h := zite_f h hb5
        refine zblq Hy.1 Hy.2.1 [(.iinc 1 1, 3)] (S' := (103, [(0, .inr (.inr (some (12, 0)))), (1, .inl (x1 + (1 : Int32))), (2, .inl x2), (3, .inl x3), (4, .inl x4)], [], zfR M)) (b := true) (by decide +kernel) rfl rfl ?_
        refine zGo_keep [0, 1, 2, 3, 4] rfl ?_
        exact m12_takeSums_103_ok Hy hE hk4 ih (x1 + (1 : Int32)) x2 x3 x4 M h
      · replace h := zite_t h hb5
        obtain ⟨hg4, h⟩ := zgd_inv h
        refine zblq Hy.1 Hy.2.1 [(.aload 0, 1), (.getfield 1215, 3), (.iconst 24, 2), (.iload 2, 1), (.imul, 1), (.iconst 6, 2), (.iload 3, 1), (.imul, 1), (.iadd, 1), (.iconst 0, 1), (.iastore, 1), (.aload 0, 1), (.getfield 1215, 3), (.iconst 24, 2), (.iload 2, 1), (.imul, 1), (.iconst 6, 2), (.iload 3, 1), (.imul, 1), (.iadd, 1), (.iconst 1, 1), (.iadd, 1), (.aload 0, 1), (.getfield 1215, 3), (.iconst 24, 2), (.iload 2, 1), (.imul, 1), (.iconst 6, 2), (.iload 4, 2), (.imul, 1), (.iadd, 1), (.iconst 1, 1), (.iadd, 1), (.iaload, 1), (.iastore, 1)] (S' := (94, [(0, .inr (.inr (some (12, 0)))), (1, .inl x1), (2, .inl x2), (3, .inl x3), (4, .inl x4)], [], zfR (rs (rs M 1315 0 (nx (((24 : Int32) * x2) + ((6 : Int32) * x3))) (0 : Int32)) 1315 0 (nx ((((24 : Int32) * x2) + ((6 : Int32) * x3)) + (1 : Int32))) (rg (rs M 1315 0 (nx (((24 : Int32) * x2) + ((6 : Int32) * x3))) (0 : Int32)) 1315 0 (nx ((((24 : Int32) * x2) + ((6 : Int32) * x4)) + (1 : Int32))))))) (b := zin (((24 : Int32) * x2) + ((6 : Int32) * x3)) 240 && (zin ((((24 : Int32) * x2) + ((6 : Int32) * x4)) + (1 : Int32)) 240 && (zin ((((24 : Int32) * x2) + ((6 : Int32) * x3)) + (1 : Int32)) 240 && true))) (by decide +kernel) rfl hg4 ?_
        refine zGo_keep [0, 1, 2, 3, 4] rfl ?_
        exact m12_takeSums_94_ok Hy hE hk4 ih x1 x2 x3 x4 (rs (rs M 1315 0 (nx (((24 : Int32) * x2) + ((6 : Int32) * x3))) (0 : Int32)) 1315 0 (nx ((((24 : Int32) * x2) + ((6 : Int32) * x3)) + (1 : Int32))) (rg (rs M 1315 0 (nx (((24 : Int32) * x2) + ((6 : Int32) * x3))) (0 : Int32)) 1315 0 (nx ((((24 : Int32) * x2) + ((6 : Int32) * x4)) + (1 : Int32))))) h
def m12_takeSums_4 : Nat → Int32 → Int32 → rM → Option (Int32 × rM)
  | 0, _, _, _ => none
  | n + 1, x1, x2, M => (if (rg M 12 0 0) ≤ x2 then some (x1, M) else m12_takeSums_17 (m12_takeSums_4 n) zfu x1 x2 (0 : Int32) (0 : Int32) M)
theorem m12_takeSums_4_ok {X : zX} {G : zG} (Hy : zHy X G q12_takeSums zcR 0 0 (some .int)) {r : Int32} {M' : rM} (hE : zEnd X G (some (.inl r)) (zfR M')) : ∀ (n : Nat) (x1 : Int32) (x2 : Int32) (M : rM), m12_takeSums_4 n x1 x2 M = some (r, M') → zGo (X, q12_takeSums, G) 0 0 (4, [(0, .inr (.inr (some (12, 0)))), (1, .inl x1), (2, .inl x2)], [], zfR M) := by
  intro n
  induction n with
  | zero => intro x1 x2 M h; cases h
  | succ n ih =>
    intro x1 x2 M h
    unfold m12_takeSums_4 at h
    refine zblq Hy.1 Hy.2.1 [(.iload 2, 1), (.aload 0, 1), (.multianewarray 12 0, 3)] (S' := (9, [(0, .inr (.inr (some (12, 0)))), (1, .inl x1), (2, .inl x2)], [.inl (rg M 12 0 0), .inl x2], zfR M)) (b := true) (by decide +kernel) rfl rfl ?_
    refine zic_ge Hy.1 (off := 113) (tgt := 122) (by decide +kernel) (by decide) (fun hb7 => ?_) (fun hb7 => ?_)
    · replace h := zite_t h hb7
      refine zblq Hy.1 Hy.2.1 [(.iload 1, 1)] (S' := (123, [(0, .inr (.inr (some (12, 0)))), (1, .inl x1), (2, .inl x2)], [.inl x1], zfR M)) (b := true) (by decide +kernel) rfl rfl ?_
      cases h
      exact zret_i Hy.1 Hy.2.2 hE (by decide +kernel)
    · replace h := zite_f h hb7
      refine zblq Hy.1 Hy.2.1 [(.iconst 0, 1), (.istore 3, 1), (.iconst 0, 1), (.istore 4, 2)] (S' := (17, [(0, .inr (.inr (some (12, 0)))), (1, .inl x1), (2, .inl x2), (3, .inl (0 : Int32)), (4, .inl (0 : Int32))], [], zfR M)) (b := true) (by decide +kernel) rfl rfl ?_
      refine zGo_keep [0, 1, 2, 3, 4] rfl ?_
      exact m12_takeSums_17_ok Hy hE ih zfu x1 x2 (0 : Int32) (0 : Int32) M h
def m12_takeSums  (M : rM) : Option (Int32 × rM) := m12_takeSums_4 zfu (0 : Int32) (0 : Int32) M
theorem m12_takeSums_ok {X : zX} {G : zG} (Hy : zHy X G q12_takeSums zcR 0 0 (some .int)) {r : Int32} {M' : rM} (hE : zEnd X G (some (.inl r)) (zfR M'))  (M : rM) (h : m12_takeSums M = some (r, M')) : zGo (X, q12_takeSums, G) 0 0 (0, [(0, .inr (.inr (some (12, 0))))], [], zfR M) := by
  unfold m12_takeSums at h
  refine zblq Hy.1 Hy.2.1 [(.iconst 0, 1), (.istore 1, 1), (.iconst 0, 1), (.istore 2, 1)] (S' := (4, [(0, .inr (.inr (some (12, 0)))), (1, .inl (0 : Int32)), (2, .inl (0 : Int32))], [], zfR M)) (b := true) (by decide +kernel) rfl rfl ?_
  refine zGo_keep [0, 1, 2] rfl ?_
  exact m12_takeSums_4_ok Hy hE zfu (0 : Int32) (0 : Int32) M h
theorem m12_takeSums_met {l : Launch} {G : zG} (hG : zGok G) (hcn : zgcn G = zcR)  {M : rM} {r : Int32} {M' : rM} (h : m12_takeSums M = some (r, M')) : zMet l G yX12_takeSums cX12_takeSums 5 (some .int) 0 0 [.inr (.inr (some (12, 0)))] (zfR M) (some (.inl r)) (zfR M') :=
  zMet_of hG tbX12_ok rfl (by decide +kernel) (Nat.le_of_ble_eq_true rfl) (fun X _ Z hA hE => m12_takeSums_ok ⟨Z, hcn, hA⟩ hE M h)
abbrev q12_meets : ByteArray × Nat × String × zT := (cX12_meets, 6, RX12, tbX12)
def m12_meets_91 (k5 : Int32 → Int32 → Int32 → Int32 → rM → Option (Int32 × rM)) (x1 : Int32) (x2 : Int32) (x4 : Int32) (t0 : Int32) (M : rM) : Option (Int32 × rM) := k5 x1 x2 t0 (x4 + (1 : Int32)) M
theorem m12_meets_91_ok {X : zX} {G : zG} (Hy : zHy X G q12_meets zcR 0 0 (some .boolean)) {r : Int32} {M' : rM} (hE : zEnd X G (some (.inl r)) (zfR M')) {k5 : Int32 → Int32 → Int32 → Int32 → rM → Option (Int32 × rM)} (hk5 : ∀ (x1 : Int32) (x2 : Int32) (x3 : Int32) (x4 : Int32) (M : rM), k5 x1 x2 x3 x4 M = some (r, M') → zGo (X, q12_meets, G) 0 0 (5, [(0, .inr (.inr (some (12, 0)))), (1, .inl x1), (2, .inl x2), (3, .inl x3), (4, .inl x4)], [], zfR M)) (x1 : Int32) (x2 : Int32) (x4 : Int32) (t0 : Int32) (M : rM) (h : m12_meets_91 k5 x1 x2 x4 t0 M = some (r, M')) : zGo (X, q12_meets, G) 0 0 (91, [(0, .inr (.inr (some (12, 0)))), (1, .inl x1), (2, .inl x2), (4, .inl x4)], [.inl t0], zfR M) := by
  unfold m12_meets_91 at h
  refine zblq Hy.1 Hy.2.1 [(.istore 3, 1), (.iinc 4 1, 3), (.ldc 5, 3)] (S' := (5, [(0, .inr (.inr (some (12, 0)))), (1, .inl x1), (2, .inl x2), (3, .inl t0), (4, .inl (x4 + (1 : Int32)))], [], zfR M)) (b := true) (by decide +kernel) rfl rfl ?_
  refine zGo_keep [0, 1, 2, 3, 4] rfl ?_
  exact hk5 x1 x2 t0 (x4 + (1 : Int32)) M h
def m12_meets_31 (k5 : Int32 → Int32 → Int32 → Int32 → rM → Option (Int32 × rM)) (x1 : Int32) (x2 : Int32) (x3 : Int32) (x4 : Int32) (t0 : Int32) (M : rM) : Option (Int32 × rM) := (if x3 = 0 then m12_meets_91 k5 x1 x2 x4 (0 : Int32) M else zgd (zin (((3 : Int32) * x4) + (1 : Int32)) 24 && true) ((if (rg M 1343 0 (nx (((3 : Int32) * x4) + (1 : Int32)))) = 0 then zgd (zin (((3 : Int32) * x4) + (2 : Int32)) 24 && true) ((if t0 ≤ (rg M 1343 0 (nx (((3 : Int32) * x4) + (2 : Int32)))) then m12_meets_91 k5 x1 x2 x4 (0 : Int32) M else m12_meets_91 k5 x1 x2 x4 (1 : Int32) M)) else zgd (zin (((3 : Int32) * x4) + (2 : Int32)) 24 && true) ((if (rg M 1343 0 (nx (((3 : Int32) * x4) + (2 : Int32)))) ≤ t0 then m12_meets_91 k5 x1 x2 x4 (0 : Int32) M else m12_meets_91 k5 x1 x2 x4 (1 : Int32) M)))))
theorem m12_meets_31_ok {X : zX} {G : zG} (Hy : zHy X G q12_meets zcR 0 0 (some .boolean)) {r : Int32} {M' : rM} (hE : zEnd X G (some (.inl r)) (zfR M')) {k5 : Int32 → Int32 → Int32 → Int32 → rM → Option (Int32 × rM)} (hk5 : ∀ (x1 : Int32) (x2 : Int32) (x3 : Int32) (x4 : Int32) (M : rM), k5 x1 x2 x3 x4 M = some (r, M') → zGo (X, q12_meets, G) 0 0 (5, [(0, .inr (.inr (some (12, 0)))), (1, .inl x1), (2, .inl x2), (3, .inl x3), (4, .inl x4)], [], zfR M)) (x1 : Int32) (x2 : Int32) (x3 : Int32) (x4 : Int32) (t0 : Int32) (M : rM) (h : m12_meets_31 k5 x1 x2 x3 x4 t0 M = some (r, M')) : zGo (X, q12_meets, G) 0 0 (31, [(0, .inr (.inr (some (12, 0)))), (1, .inl x1), (2, .inl x2), (3, .inl x3), (4, .inl x4)], [.inl t0], zfR M) := by
  unfold m12_meets_31 at h
  refine zblq Hy.1 Hy.2.1 [(.istore 5, 2), (.iload 3, 1)] (S' := (34, [(0, .inr (.inr (some (12, 0)))), (1, .inl x1), (2, .inl x2), (3, .inl x3), (4, .inl x4), (5, .inl t0)], [.inl x3], zfR M)) (b := true) (by decide +kernel) rfl rfl ?_
  refine zif_eq Hy.1 (off := 56) (tgt := 90) (by decide +kernel) (by decide) (fun hb9 => ?_) (fun hb9 => ?_)
  · replace h := zite_t h hb9
    refine zblq Hy.1 Hy.2.1 [(.iconst 0, 1)] (S' := (91, [(0, .inr (.inr (some (12, 0)))), (1, .inl x1), (2, .inl x2), (3, .inl x3), (4, .inl x4), (5, .inl t0)], [.inl (0 : Int32)], zfR M)) (b := true) (by decide +kernel) rfl rfl ?_
    refine zGo_keep [0, 1, 2, 4] rfl ?_
    exact m12_meets_91_ok Hy hE hk5 x1 x2 x4 (0 : Int32) M h
  · replace h := zite_f h hb9
    obtain ⟨hg3, h⟩ := zgd_inv h
    refine zblq Hy.1 Hy.2.1 [(.aload 0, 1), (.getfield 1243, 3), (.iconst 3, 1), (.iload 4, 2), (.imul, 1), (.iconst 1, 1), (.iadd, 1), (.iaload, 1)] (S' := (48, [(0, .inr (.inr (some (12, 0)))), (1, .inl x1), (2, .inl x2), (3, .inl x3), (4, .inl x4), (5, .inl t0)], [.inl (rg M 1343 0 (nx (((3 : Int32) * x4) + (1 : Int32))))], zfR M)) (b := zin (((3 : Int32) * x4) + (1 : Int32)) 24 && true) (by decide +kernel) rfl hg3 ?_
    refine zif_ne Hy.1 (off := 22) (tgt := 70) (by decide +kernel) (by decide) (fun hb8 => ?_) (fun hb8 => ?_)
    · replace h := zite_f h hb8
      obtain ⟨hg4, h⟩ := zgd_inv h
      refine zblq Hy.1 Hy.2.1 [(.iload 5, 2), (.aload 0, 1), (.getfield 1243, 3), (.iconst 3, 1), (.iload 4, 2), (.imul, 1), (.iconst 2, 1), (.iadd, 1), (.iaload, 1)] (S' := (83, [(0, .inr (.inr (some (12, 0)))), (1, .inl x1), (2, .inl x2), (3, .inl x3), (4, .inl x4), (5, .inl t0)], [.inl (rg M 1343 0 (nx (((3 : Int32) * x4) + (2 : Int32)))), .inl t0], zfR M)) (b := zin (((3 : Int32) * x4) + (2 : Int32)) 24 && true) (by decide +kernel) rfl hg4 ?_
      refine zic_ge Hy.1 (off := 7) (tgt := 90) (by decide +kernel) (by decide) (fun hb5 => ?_) (fun hb5 => ?_)
      · replace h := zite_t h hb5
        refine zblq Hy.1 Hy.2.1 [(.iconst 0, 1)] (S' := (91, [(0, .inr (.inr (some (12, 0)))), (1, .inl x1), (2, .inl x2), (3, .inl x3), (4, .inl x4), (5, .inl t0)], [.inl (0 : Int32)], zfR M)) (b := true) (by decide +kernel) rfl rfl ?_
        refine zGo_keep [0, 1, 2, 4] rfl ?_
        exact m12_meets_91_ok Hy hE hk5 x1 x2 x4 (0 : Int32) M h
      · replace h := zite_f h hb5
        refine zblq Hy.1 Hy.2.1 [(.iconst 1, 1), (.ldc 91, 3)] (S' := (91, [(0, .inr (.inr (some (12, 0)))), (1, .inl x1), (2, .inl x2), (3, .inl x3), (4, .inl x4), (5, .inl t0)], [.inl (1 : Int32)], zfR M)) (b := true) (by decide +kernel) rfl rfl ?_
        refine zGo_keep [0, 1, 2, 4] rfl ?_
        exact m12_meets_91_ok Hy hE hk5 x1 x2 x4 (1 : Int32) M h
    · replace h := zite_t h hb8
      obtain ⟨hg6, h⟩ := zgd_inv h
      refine zblq Hy.1 Hy.2.1 [(.iload 5, 2), (.aload 0, 1), (.getfield 1243, 3), (.iconst 3, 1), (.iload 4, 2), (.imul, 1), (.iconst 2, 1), (.iadd, 1), (.iaload, 1)] (S' := (64, [(0, .inr (.inr (some (12, 0)))), (1, .inl x1), (2, .inl x2), (3, .inl x3), (4, .inl x4), (5, .inl t0)], [.inl (rg M 1343 0 (nx (((3 : Int32) * x4) + (2 : Int32)))), .inl t0], zfR M)) (b := zin (((3 : Int32) * x4) + (2 : Int32)) 24 && true) (by decide +kernel) rfl hg6 ?_
      refine zic_le Hy.1 (off := 26) (tgt := 90) (by decide +kernel) (by decide) (fun hb7 => ?_) (fun hb7 => ?_)
      · replace h := zite_t h hb7
        refine zblq Hy.1 Hy.2.1 [(.iconst 0, 1)] (S' := (91, [(0, .inr (.inr (some (12, 0)))), (1, .inl x1), (2, .inl x2), (3, .inl x3), (4, .inl x4), (5, .inl t0)], [.inl (0 : Int32)], zfR M)) (b := true) (by decide +kernel) rfl rfl ?_
        refine zGo_keep [0, 1, 2, 4] rfl ?_
        exact m12_meets_91_ok Hy hE hk5 x1 x2 x4 (0 : Int32) M h
      · replace h := zite_f h hb7
        refine zblq Hy.1 Hy.2.1 [(.ldc 86, 3), (.iconst 1, 1), (.ldc 91, 3)] (S' := (91, [(0, .inr (.inr (some (12, 0)))), (1, .inl x1), (2, .inl x2), (3, .inl x3), (4, .inl x4), (5, .inl t0)], [.inl (1 : Int32)], zfR M)) (b := true) (by decide +kernel) rfl rfl ?_
        refine zGo_keep [0, 1, 2, 4] rfl ?_
        exact m12_meets_91_ok Hy hE hk5 x1 x2 x4 (1 : Int32) M h
def m12_meets_5 : Nat → Int32 → Int32 → Int32 → Int32 → rM → Option (Int32 × rM)
  | 0, _, _, _, _, _ => none
  | n + 1, x1, x2, x3, x4, M => (if (rg M 12 0 42) ≤ x4 then zgd (zbl x3) (some (x3, M)) else zgd (zin ((3 : Int32) * x4) 24 && true) ((if (rg M 1343 0 (nx ((3 : Int32) * x4))) = 0 then m12_meets_31 (m12_meets_5 n) x1 x2 x3 x4 x2 M else m12_meets_31 (m12_meets_5 n) x1 x2 x3 x4 x1 M)))
theorem m12_meets_5_ok {X : zX} {G : zG} (Hy : zHy X G q12_meets zcR 0 0 (some .boolean)) {r : Int32} {M' : rM} (hE : zEnd X G (some (.inl r)) (zfR M')) : ∀ (n : Nat) (x1 : Int32) (x2 : Int32) (x3 : Int32) (x4 : Int32) (M : rM), m12_meets_5 n x1 x2 x3 x4 M = some (r, M') → zGo (X, q12_meets, G) 0 0 (5, [(0, .inr (.inr (some (12, 0)))), (1, .inl x1), (2, .inl x2), (3, .inl x3), (4, .inl x4)], [], zfR M) := by
  intro n
  induction n with
  | zero => intro x1 x2 x3 x4 M h; cases h
  | succ n ih =>
    intro x1 x2 x3 x4 M h
    unfold m12_meets_5 at h
    refine zblq Hy.1 Hy.2.1 [(.iload 4, 2), (.aload 0, 1), (.multianewarray 12 42, 3)] (S' := (11, [(0, .inr (.inr (some (12, 0)))), (1, .inl x1), (2, .inl x2), (3, .inl x3), (4, .inl x4)], [.inl (rg M 12 0 42), .inl x4], zfR M)) (b := true) (by decide +kernel) rfl rfl ?_
    refine zic_ge Hy.1 (off := 87) (tgt := 98) (by decide +kernel) (by decide) (fun hb11 => ?_) (fun hb11 => ?_)
    · replace h := zite_t h hb11
      refine zblq Hy.1 Hy.2.1 [(.iload 3, 1)] (S' := (99, [(0, .inr (.inr (some (12, 0)))), (1, .inl x1), (2, .inl x2), (3, .inl x3), (4, .inl x4)], [.inl x3], zfR M)) (b := true) (by decide +kernel) rfl rfl ?_
      obtain ⟨hg1, h⟩ := zgd_inv h
      cases h
      exact zret_z Hy.1 Hy.2.2 hg1 hE (by decide +kernel)
    · replace h := zite_f h hb11
      obtain ⟨hg2, h⟩ := zgd_inv h
      refine zblq Hy.1 Hy.2.1 [(.aload 0, 1), (.getfield 1243, 3), (.iconst 3, 1), (.iload 4, 2), (.imul, 1), (.iaload, 1)] (S' := (23, [(0, .inr (.inr (some (12, 0)))), (1, .inl x1), (2, .inl x2), (3, .inl x3), (4, .inl x4)], [.inl (rg M 1343 0 (nx ((3 : Int32) * x4)))], zfR M)) (b := zin ((3 : Int32) * x4) 24 && true) (by decide +kernel) rfl hg2 ?_
      refine zif_ne Hy.1 (off := 7) (tgt := 30) (by decide +kernel) (by decide) (fun hb10 => ?_) (fun hb10 => ?_)
      · replace h := zite_f h hb10
        refine zblq Hy.1 Hy.2.1 [(.iload 1, 1)] (S' := (31, [(0, .inr (.inr (some (12, 0)))), (1, .inl x1), (2, .inl x2), (3, .inl x3), (4, .inl x4)], [.inl x1], zfR M)) (b := true) (by decide +kernel) rfl rfl ?_
        refine zGo_keep [0, 1, 2, 3, 4] rfl ?_
        exact m12_meets_31_ok Hy hE ih x1 x2 x3 x4 x1 M h
      · replace h := zite_t h hb10
        refine zblq Hy.1 Hy.2.1 [(.iload 2, 1), (.ldc 31, 3)] (S' := (31, [(0, .inr (.inr (some (12, 0)))), (1, .inl x1), (2, .inl x2), (3, .inl x3), (4, .inl x4)], [.inl x2], zfR M)) (b := true) (by decide +kernel) rfl rfl ?_
        refine zGo_keep [0, 1, 2, 3, 4] rfl ?_
        exact m12_meets_31_ok Hy hE ih x1 x2 x3 x4 x2 M h
def m12_meets (x1 : Int32) (x2 : Int32) (M : rM) : Option (Int32 × rM) := m12_meets_5 zfu x1 x2 (1 : Int32) (0 : Int32) M
theorem m12_meets_ok {X : zX} {G : zG} (Hy : zHy X G q12_meets zcR 0 0 (some .boolean)) {r : Int32} {M' : rM} (hE : zEnd X G (some (.inl r)) (zfR M')) (x1 : Int32) (x2 : Int32) (M : rM) (h : m12_meets x1 x2 M = some (r, M')) : zGo (X, q12_meets, G) 0 0 (0, [(0, .inr (.inr (some (12, 0)))), (1, .inl x1), (2, .inl x2)], [], zfR M) := by
  unfold m12_meets at h
  refine zblq Hy.1 Hy.2.1 [(.iconst 1, 1), (.istore 3, 1), (.iconst 0, 1), (.istore 4, 2)] (S' := (5, [(0, .inr (.inr (some (12, 0)))), (1, .inl x1), (2, .inl x2), (3, .inl (1 : Int32)), (4, .inl (0 : Int32))], [], zfR M)) (b := true) (by decide +kernel) rfl rfl ?_
  refine zGo_keep [0, 1, 2, 3, 4] rfl ?_
  exact m12_meets_5_ok Hy hE zfu x1 x2 (1 : Int32) (0 : Int32) M h
theorem m12_meets_met {l : Launch} {G : zG} (hG : zGok G) (hcn : zgcn G = zcR) {x1 : Int32} {x2 : Int32} {M : rM} {r : Int32} {M' : rM} (h : m12_meets x1 x2 M = some (r, M')) : zMet l G yX12_meets cX12_meets 6 (some .boolean) 0 0 [.inr (.inr (some (12, 0))), .inl x1, .inl x2] (zfR M) (some (.inl r)) (zfR M') :=
  zMet_of hG tbX12_ok rfl (by decide +kernel) (Nat.le_of_ble_eq_true rfl) (fun X _ Z hA hE => m12_meets_ok ⟨Z, hcn, hA⟩ hE x1 x2 M h)
abbrev q12_beginEpoch : ByteArray × Nat × String × zT := (cX12_beginEpoch, 5, RX12, tbX12)
def m12_beginEpoch_184 (k78 : Int32 → Int32 → rM → Option rM) (x1 : Int32) (x2 : Int32) (M : rM) : Option rM := k78 x1 (x2 + (1 : Int32)) M
theorem m12_beginEpoch_184_ok {X : zX} {G : zG} (Hy : zHy X G q12_beginEpoch zcR 1 28 (none)) {M' : rM} (hE : zEnd X G (none) (zfR M')) {k78 : Int32 → Int32 → rM → Option rM} (hk78 : ∀ (x1 : Int32) (x2 : Int32) (M : rM), k78 x1 x2 M = some M' → zGo (X, q12_beginEpoch, G) 0 0 (78, [(0, .inr (.inr (some (12, 0)))), (1, .inl x1), (2, .inl x2)], [], zfR M)) (x1 : Int32) (x2 : Int32) (M : rM) (h : m12_beginEpoch_184 k78 x1 x2 M = some M') : zGo (X, q12_beginEpoch, G) 0 0 (184, [(0, .inr (.inr (some (12, 0)))), (1, .inl x1), (2, .inl x2)], [], zfR M) := by
  unfold m12_beginEpoch_184 at h
  refine zblq Hy.1 Hy.2.1 [(.iinc 2 1, 3), (.ldc 78, 3)] (S' := (78, [(0, .inr (.inr (some (12, 0)))), (1, .inl x1), (2, .inl (x2 + (1 : Int32)))], [], zfR M)) (b := true) (by decide +kernel) rfl rfl ?_
  refine zGo_keep [0, 1, 2] rfl ?_
  exact hk78 x1 (x2 + (1 : Int32)) M h
def m12_beginEpoch_171 (k78 : Int32 → Int32 → rM → Option rM) (x1 : Int32) (x2 : Int32) (x4 : Int32) (t1 : Int32) (M : rM) : Option rM := zbv (m12_join t1 x4 x4 (1 : Int32) x4 (zshl (1 : Int32) x2) M) (fun M10 => m12_beginEpoch_184 k78 x1 x2 M10)
theorem m12_beginEpoch_171_ok {X : zX} {G : zG} (Hy : zHy X G q12_beginEpoch zcR 1 28 (none)) {M' : rM} (hE : zEnd X G (none) (zfR M')) {k78 : Int32 → Int32 → rM → Option rM} (hk78 : ∀ (x1 : Int32) (x2 : Int32) (M : rM), k78 x1 x2 M = some M' → zGo (X, q12_beginEpoch, G) 0 0 (78, [(0, .inr (.inr (some (12, 0)))), (1, .inl x1), (2, .inl x2)], [], zfR M)) (x1 : Int32) (x2 : Int32) (x4 : Int32) (t1 : Int32) (M : rM) (h : m12_beginEpoch_171 k78 x1 x2 x4 t1 M = some M') : zGo (X, q12_beginEpoch, G) 0 0 (171, [(0, .inr (.inr (some (12, 0)))), (1, .inl x1), (2, .inl x2), (4, .inl x4)], [.inl t1, .inr (.inr (some (12, 0)))], zfR M) := by
  unfold m12_beginEpoch_171 at h
  refine zblq Hy.1 Hy.2.1 [(.iload 4, 2), (.iload 4, 2), (.iconst 1, 1), (.iload 4, 2), (.iconst 1, 1), (.iload 2, 1), (.ishl, 1)] (S' := (181, [(0, .inr (.inr (some (12, 0)))), (1, .inl x1), (2, .inl x2), (4, .inl x4)], [.inl (zshl (1 : Int32) x2), .inl x4, .inl (1 : Int32), .inl x4, .inl x4, .inl t1, .inr (.inr (some (12, 0)))], zfR M)) (b := true) (by decide +kernel) rfl rfl ?_
  obtain ⟨M10, hc10, h⟩ := zbv_inv h
  refine zcallV Hy.1 (as := [.inl t1, .inl x4, .inl x4, .inl (1 : Int32), .inl x4, .inl (zshl (1 : Int32) x2)]) (st := []) (m12_join_met (zOK_G Hy.1) Hy.2.1 hc10) cw12_221 m12_join_in m12_join_se (by decide) (zhlv Hy.2.1 rfl) rfl (zroom Hy.2.2 ⟨by decide, by decide⟩) rfl (by decide +kernel) ⟨Nat.zero_le _, Nat.zero_le _⟩ ?_
  refine zGo_keep [0, 1, 2] rfl ?_
  exact m12_beginEpoch_184_ok Hy hE hk78 x1 x2 M10 h
def m12_beginEpoch_158 (k78 : Int32 → Int32 → rM → Option rM) (x1 : Int32) (x2 : Int32) (t0 : Int32) (M : rM) : Option rM := (if x2 = 0 then m12_beginEpoch_171 k78 x1 x2 t0 (10 : Int32) M else m12_beginEpoch_171 k78 x1 x2 t0 x2 M)
theorem m12_beginEpoch_158_ok {X : zX} {G : zG} (Hy : zHy X G q12_beginEpoch zcR 1 28 (none)) {M' : rM} (hE : zEnd X G (none) (zfR M')) {k78 : Int32 → Int32 → rM → Option rM} (hk78 : ∀ (x1 : Int32) (x2 : Int32) (M : rM), k78 x1 x2 M = some M' → zGo (X, q12_beginEpoch, G) 0 0 (78, [(0, .inr (.inr (some (12, 0)))), (1, .inl x1), (2, .inl x2)], [], zfR M)) (x1 : Int32) (x2 : Int32) (t0 : Int32) (M : rM) (h : m12_beginEpoch_158 k78 x1 x2 t0 M = some M') : zGo (X, q12_beginEpoch, G) 0 0 (158, [(0, .inr (.inr (some (12, 0)))), (1, .inl x1), (2, .inl x2)], [.inl t0], zfR M) := by
  unfold m12_beginEpoch_158 at h
  refine zblq Hy.1 Hy.2.1 [(.istore 4, 2), (.aload 0, 1), (.iload 2, 1)] (S' := (162, [(0, .inr (.inr (some (12, 0)))), (1, .inl x1), (2, .inl x2), (4, .inl t0)], [.inl x2, .inr (.inr (some (12, 0)))], zfR M)) (b := true) (by decide +kernel) rfl rfl ?_
  refine zif_ne Hy.1 (off := 8) (tgt := 170) (by decide +kernel) (by decide) (fun hb11 => ?_) (fun hb11 => ?_)
  · replace h := zite_f h hb11
    refine zblq Hy.1 Hy.2.1 [(.iload 2, 1)] (S' := (171, [(0, .inr (.inr (some (12, 0)))), (1, .inl x1), (2, .inl x2), (4, .inl t0)], [.inl x2, .inr (.inr (some (12, 0)))], zfR M)) (b := true) (by decide +kernel) rfl rfl ?_
    refine zGo_keep [0, 1, 2, 4] rfl ?_
    exact m12_beginEpoch_171_ok Hy hE hk78 x1 x2 t0 x2 M h
  · replace h := zite_t h hb11
    refine zblq Hy.1 Hy.2.1 [(.iconst 10, 2), (.ldc 171, 3)] (S' := (171, [(0, .inr (.inr (some (12, 0)))), (1, .inl x1), (2, .inl x2), (4, .inl t0)], [.inl (10 : Int32), .inr (.inr (some (12, 0)))], zfR M)) (b := true) (by decide +kernel) rfl rfl ?_
    refine zGo_keep [0, 1, 2, 4] rfl ?_
    exact m12_beginEpoch_171_ok Hy hE hk78 x1 x2 t0 (10 : Int32) M h
def m12_beginEpoch_78 : Nat → Int32 → Int32 → rM → Option rM
  | 0, _, _, _ => none
  | n + 1, x1, x2, M => (if (rg M 12 0 0) ≤ x2 then some M else zbv (m12_emptySum x2 M) (fun M5 => zgd (zin x2 10 && (znz (24 : Int32) && (zin (((24 : Int32) * x2) + (zrem x1 (24 : Int32))) 240 && (zin x2 10 && true)))) ((if (rg (rs M5 1317 0 (nx x2) (vp_nar .boolean (0 : Int32))) 1322 0 (nx x2)) = 0 then m12_beginEpoch_184 (m12_beginEpoch_78 n) x1 x2 (rs M5 1317 0 (nx x2) (vp_nar .boolean (0 : Int32))) else (if (16 : Int32) ≤ (rg (rs M5 1317 0 (nx x2) (vp_nar .boolean (0 : Int32))) 1344 0 (nx (((24 : Int32) * x2) + (zrem x1 (24 : Int32))))) then m12_beginEpoch_184 (m12_beginEpoch_78 n) x1 x2 (rs M5 1317 0 (nx x2) (vp_nar .boolean (0 : Int32))) else zbd (m12_meets x2 (rg (rs M5 1317 0 (nx x2) (vp_nar .boolean (0 : Int32))) 1344 0 (nx (((24 : Int32) * x2) + (zrem x1 (24 : Int32))))) (rs M5 1317 0 (nx x2) (vp_nar .boolean (0 : Int32)))) (fun r7 M7 => (if r7 = 0 then m12_beginEpoch_184 (m12_beginEpoch_78 n) x1 x2 M7 else zgd (zin x2 10 && true) ((if (rg M7 1345 0 (nx x2)) = (16 : Int32) then m12_beginEpoch_158 (m12_beginEpoch_78 n) x1 x2 (rg (rs M5 1317 0 (nx x2) (vp_nar .boolean (0 : Int32))) 1344 0 (nx (((24 : Int32) * x2) + (zrem x1 (24 : Int32))))) M7 else zgd (zin x2 10 && true) (m12_beginEpoch_158 (m12_beginEpoch_78 n) x1 x2 (rg M7 1345 0 (nx x2)) M7))))))))))
theorem m12_beginEpoch_78_ok {X : zX} {G : zG} (Hy : zHy X G q12_beginEpoch zcR 1 28 (none)) {M' : rM} (hE : zEnd X G (none) (zfR M')) : ∀ (n : Nat) (x1 : Int32) (x2 : Int32) (M : rM), m12_beginEpoch_78 n x1 x2 M = some M' → zGo (X, q12_beginEpoch, G) 0 0 (78, [(0, .inr (.inr (some (12, 0)))), (1, .inl x1), (2, .inl x2)], [], zfR M) := by
  intro n
  induction n with
  | zero => intro x1 x2 M h; cases h
  | succ n ih =>
    intro x1 x2 M h
    unfold m12_beginEpoch_78 at h
    refine zblq Hy.1 Hy.2.1 [(.iload 2, 1), (.aload 0, 1), (.multianewarray 12 0, 3)] (S' := (83, [(0, .inr (.inr (some (12, 0)))), (1, .inl x1), (2, .inl x2)], [.inl (rg M 12 0 0), .inl x2], zfR M)) (b := true) (by decide +kernel) rfl rfl ?_
    refine zic_ge Hy.1 (off := 107) (tgt := 190) (by decide +kernel) (by decide) (fun hb16 => ?_) (fun hb16 => ?_)
    · replace h := zite_t h hb16
      cases h
      exact zret_v Hy.1 Hy.2.2 hE (by decide +kernel)
    · replace h := zite_f h hb16
      refine zblq Hy.1 Hy.2.1 [(.aload 0, 1), (.iload 2, 1)] (S' := (88, [(0, .inr (.inr (some (12, 0)))), (1, .inl x1), (2, .inl x2)], [.inl x2, .inr (.inr (some (12, 0)))], zfR M)) (b := true) (by decide +kernel) rfl rfl ?_
      obtain ⟨M5, hc5, h⟩ := zbv_inv h
      refine zcallV Hy.1 (as := [.inl x2]) (st := []) (m12_emptySum_met (zOK_G Hy.1) Hy.2.1 hc5) cw12_214 m12_emptySum_in m12_emptySum_se (by decide) (zhlv Hy.2.1 rfl) rfl (zroom Hy.2.2 ⟨by decide, by decide⟩) rfl (by decide +kernel) ⟨Nat.zero_le _, Nat.zero_le _⟩ ?_
      obtain ⟨hg6, h⟩ := zgd_inv h
      refine zblq Hy.1 Hy.2.1 [(.aload 0, 1), (.getfield 1217, 3), (.iload 2, 1), (.iconst 0, 1), (.bastore, 1), (.aload 0, 1), (.getfield 1244, 3), (.iconst 24, 2), (.iload 2, 1), (.imul, 1), (.iload 1, 1), (.iconst 24, 2), (.irem, 1), (.iadd, 1), (.iaload, 1), (.istore 3, 1), (.aload 0, 1), (.getfield 1222, 3), (.iload 2, 1), (.baload, 1)] (S' := (119, [(0, .inr (.inr (some (12, 0)))), (1, .inl x1), (2, .inl x2), (3, .inl (rg (rs M5 1317 0 (nx x2) (vp_nar .boolean (0 : Int32))) 1344 0 (nx (((24 : Int32) * x2) + (zrem x1 (24 : Int32))))))], [.inl (rg (rs M5 1317 0 (nx x2) (vp_nar .boolean (0 : Int32))) 1322 0 (nx x2))], zfR (rs M5 1317 0 (nx x2) (vp_nar .boolean (0 : Int32))))) (b := zin x2 10 && (znz (24 : Int32) && (zin (((24 : Int32) * x2) + (zrem x1 (24 : Int32))) 240 && (zin x2 10 && true)))) (by decide +kernel) rfl hg6 ?_
      refine zif_eq Hy.1 (off := 65) (tgt := 184) (by decide +kernel) (by decide) (fun hb15 => ?_) (fun hb15 => ?_)
      · replace h := zite_t h hb15
        refine zGo_keep [0, 1, 2] rfl ?_
        exact m12_beginEpoch_184_ok Hy hE ih x1 x2 (rs M5 1317 0 (nx x2) (vp_nar .boolean (0 : Int32))) h
      · replace h := zite_f h hb15
        refine zblq Hy.1 Hy.2.1 [(.iload 3, 1), (.iconst 16, 2)] (S' := (125, [(0, .inr (.inr (some (12, 0)))), (1, .inl x1), (2, .inl x2), (3, .inl (rg (rs M5 1317 0 (nx x2) (vp_nar .boolean (0 : Int32))) 1344 0 (nx (((24 : Int32) * x2) + (zrem x1 (24 : Int32))))))], [.inl (16 : Int32), .inl (rg (rs M5 1317 0 (nx x2) (vp_nar .boolean (0 : Int32))) 1344 0 (nx (((24 : Int32) * x2) + (zrem x1 (24 : Int32)))))], zfR (rs M5 1317 0 (nx x2) (vp_nar .boolean (0 : Int32))))) (b := true) (by decide +kernel) rfl rfl ?_
        refine zic_ge Hy.1 (off := 59) (tgt := 184) (by decide +kernel) (by decide) (fun hb14 => ?_) (fun hb14 => ?_)
        · replace h := zite_t h hb14
          refine zGo_keep [0, 1, 2] rfl ?_
          exact m12_beginEpoch_184_ok Hy hE ih x1 x2 (rs M5 1317 0 (nx x2) (vp_nar .boolean (0 : Int32))) h
        · replace h := zite_f h hb14
          refine zblq Hy.1 Hy.2.1 [(.aload 0, 1), (.iload 2, 1), (.iload 3, 1)] (S' := (131, [(0, .inr (.inr (some (12, 0)))), (1, .inl x1), (2, .inl x2), (3, .inl (rg (rs M5 1317 0 (nx x2) (vp_nar .boolean (0 : Int32))) 1344 0 (nx (((24 : Int32) * x2) + (zrem x1 (24 : Int32))))))], [.inl (rg (rs M5 1317 0 (nx x2) (vp_nar .boolean (0 : Int32))) 1344 0 (nx (((24 : Int32) * x2) + (zrem x1 (24 : Int32))))), .inl x2, .inr (.inr (some (12, 0)))], zfR (rs M5 1317 0 (nx x2) (vp_nar .boolean (0 : Int32))))) (b := true) (by decide +kernel) rfl rfl ?_
          obtain ⟨r7, M7, hc7, h⟩ := zbd_inv h
          refine zcallV Hy.1 (as := [.inl x2, .inl (rg (rs M5 1317 0 (nx x2) (vp_nar .boolean (0 : Int32))) 1344 0 (nx (((24 : Int32) * x2) + (zrem x1 (24 : Int32)))))]) (st := []) (m12_meets_met (zOK_G Hy.1) Hy.2.1 hc7) cw12_218 m12_meets_in m12_meets_se (by decide) (zhlv Hy.2.1 rfl) rfl (zroom Hy.2.2 ⟨by decide, by decide⟩) rfl (by decide +kernel) ⟨Nat.zero_le _, Nat.zero_le _⟩ ?_
          refine zif_eq Hy.1 (off := 50) (tgt := 184) (by decide +kernel) (by decide) (fun hb13 => ?_) (fun hb13 => ?_)
          · replace h := zite_t h hb13
            refine zGo_keep [0, 1, 2] rfl ?_
            exact m12_beginEpoch_184_ok Hy hE ih x1 x2 M7 h
          · replace h := zite_f h hb13
            obtain ⟨hg8, h⟩ := zgd_inv h
            refine zblq Hy.1 Hy.2.1 [(.aload 0, 1), (.getfield 1245, 3), (.iload 2, 1), (.iaload, 1), (.iconst 16, 2)] (S' := (145, [(0, .inr (.inr (some (12, 0)))), (1, .inl x1), (2, .inl x2), (3, .inl (rg (rs M5 1317 0 (nx x2) (vp_nar .boolean (0 : Int32))) 1344 0 (nx (((24 : Int32) * x2) + (zrem x1 (24 : Int32))))))], [.inl (16 : Int32), .inl (rg M7 1345 0 (nx x2))], zfR M7)) (b := zin x2 10 && true) (by decide +kernel) rfl hg8 ?_
            refine zic_ne Hy.1 (off := 7) (tgt := 152) (by decide +kernel) (by decide) (fun hb12 => ?_) (fun hb12 => ?_)
            · replace h := zite_f h hb12
              obtain ⟨hg9, h⟩ := zgd_inv h
              refine zblq Hy.1 Hy.2.1 [(.aload 0, 1), (.getfield 1245, 3), (.iload 2, 1), (.iaload, 1)] (S' := (158, [(0, .inr (.inr (some (12, 0)))), (1, .inl x1), (2, .inl x2), (3, .inl (rg (rs M5 1317 0 (nx x2) (vp_nar .boolean (0 : Int32))) 1344 0 (nx (((24 : Int32) * x2) + (zrem x1 (24 : Int32))))))], [.inl (rg M7 1345 0 (nx x2))], zfR M7)) (b := zin x2 10 && true) (by decide +kernel) rfl hg9 ?_
              refine zGo_keep [0, 1, 2] rfl ?_
              exact m12_beginEpoch_158_ok Hy hE ih x1 x2 (rg M7 1345 0 (nx x2)) M7 h
            · replace h := zite_t h hb12
              refine zblq Hy.1 Hy.2.1 [(.iload 3, 1), (.ldc 158, 3)] (S' := (158, [(0, .inr (.inr (some (12, 0)))), (1, .inl x1), (2, .inl x2), (3, .inl (rg (rs M5 1317 0 (nx x2) (vp_nar .boolean (0 : Int32))) 1344 0 (nx (((24 : Int32) * x2) + (zrem x1 (24 : Int32))))))], [.inl (rg (rs M5 1317 0 (nx x2) (vp_nar .boolean (0 : Int32))) 1344 0 (nx (((24 : Int32) * x2) + (zrem x1 (24 : Int32)))))], zfR M7)) (b := true) (by decide +kernel) rfl rfl ?_
              refine zGo_keep [0, 1, 2] rfl ?_
              exact m12_beginEpoch_158_ok Hy hE ih x1 x2 (rg (rs M5 1317 0 (nx x2) (vp_nar .boolean (0 : Int32))) 1344 0 (nx (((24 : Int32) * x2) + (zrem x1 (24 : Int32))))) M7 h
def m12_beginEpoch_57 (k15 : Int32 → Int32 → rM → Option rM) (x1 : Int32) (x2 : Int32) (t1 : Int32) (t2 : Int32) (t3 : Int32) (M : rM) : Option rM := zgd (zin t1 8 && true) (k15 x1 (x2 + (1 : Int32)) (rs M 1319 0 (nx t1) (t2 + t3)))
theorem m12_beginEpoch_57_ok {X : zX} {G : zG} (Hy : zHy X G q12_beginEpoch zcR 1 28 (none)) {M' : rM} (hE : zEnd X G (none) (zfR M')) {k15 : Int32 → Int32 → rM → Option rM} (hk15 : ∀ (x1 : Int32) (x2 : Int32) (M : rM), k15 x1 x2 M = some M' → zGo (X, q12_beginEpoch, G) 0 0 (15, [(0, .inr (.inr (some (12, 0)))), (1, .inl x1), (2, .inl x2)], [], zfR M)) (x1 : Int32) (x2 : Int32) (t1 : Int32) (t2 : Int32) (t3 : Int32) (M : rM) (h : m12_beginEpoch_57 k15 x1 x2 t1 t2 t3 M = some M') : zGo (X, q12_beginEpoch, G) 0 0 (57, [(0, .inr (.inr (some (12, 0)))), (1, .inl x1), (2, .inl x2)], [.inl t3, .inl t2, .inl t1, .inr (.inr (some (1319, 0)))], zfR M) := by
  unfold m12_beginEpoch_57 at h
  obtain ⟨hg18, h⟩ := zgd_inv h
  refine zblq Hy.1 Hy.2.1 [(.iadd, 1), (.iastore, 1), (.iinc 2 1, 3), (.ldc 15, 3)] (S' := (15, [(0, .inr (.inr (some (12, 0)))), (1, .inl x1), (2, .inl (x2 + (1 : Int32)))], [], zfR (rs M 1319 0 (nx t1) (t2 + t3)))) (b := zin t1 8 && true) (by decide +kernel) rfl hg18 ?_
  refine zGo_keep [0, 1, 2] rfl ?_
  exact hk15 x1 (x2 + (1 : Int32)) (rs M 1319 0 (nx t1) (t2 + t3)) h
def m12_beginEpoch_15 : Nat → Int32 → Int32 → rM → Option rM
  | 0, _, _, _ => none
  | n + 1, x1, x2, M => (if (rg M 12 0 0) ≤ x2 then zbv (m12_emptySum (10 : Int32) (rs M 12 0 18 x1)) (fun M4 => m12_beginEpoch_78 zfu x1 (0 : Int32) M4) else zgd (zin (5 : Int32) 8 && (zin (((5 : Int32) * x2) + (2 : Int32)) 55 && true)) ((if (rg M 1316 0 (nx (((5 : Int32) * x2) + (2 : Int32)))) ≤ 0 then m12_beginEpoch_57 (m12_beginEpoch_15 n) x1 x2 (5 : Int32) (rg M 1319 0 (nx (5 : Int32))) (0 : Int32) M else zgd (zin x2 10 && true) ((if (rg M 1317 0 (nx x2)) = 0 then m12_beginEpoch_57 (m12_beginEpoch_15 n) x1 x2 (5 : Int32) (rg M 1319 0 (nx (5 : Int32))) (1 : Int32) M else m12_beginEpoch_57 (m12_beginEpoch_15 n) x1 x2 (5 : Int32) (rg M 1319 0 (nx (5 : Int32))) (0 : Int32) M)))))
theorem m12_beginEpoch_15_ok {X : zX} {G : zG} (Hy : zHy X G q12_beginEpoch zcR 1 28 (none)) {M' : rM} (hE : zEnd X G (none) (zfR M')) : ∀ (n : Nat) (x1 : Int32) (x2 : Int32) (M : rM), m12_beginEpoch_15 n x1 x2 M = some M' → zGo (X, q12_beginEpoch, G) 0 0 (15, [(0, .inr (.inr (some (12, 0)))), (1, .inl x1), (2, .inl x2)], [], zfR M) := by
  intro n
  induction n with
  | zero => intro x1 x2 M h; cases h
  | succ n ih =>
    intro x1 x2 M h
    unfold m12_beginEpoch_15 at h
    refine zblq Hy.1 Hy.2.1 [(.iload 2, 1), (.aload 0, 1), (.multianewarray 12 0, 3)] (S' := (20, [(0, .inr (.inr (some (12, 0)))), (1, .inl x1), (2, .inl x2)], [.inl (rg M 12 0 0), .inl x2], zfR M)) (b := true) (by decide +kernel) rfl rfl ?_
    refine zic_ge Hy.1 (off := 45) (tgt := 65) (by decide +kernel) (by decide) (fun hb22 => ?_) (fun hb22 => ?_)
    · replace h := zite_t h hb22
      refine zblq Hy.1 Hy.2.1 [(.aload 0, 1), (.iload 1, 1), (.invokeinterface 12 18, 3), (.aload 0, 1), (.iconst 10, 2)] (S' := (73, [(0, .inr (.inr (some (12, 0)))), (1, .inl x1), (2, .inl x2)], [.inl (10 : Int32), .inr (.inr (some (12, 0)))], zfR (rs M 12 0 18 x1))) (b := true) (by decide +kernel) rfl rfl ?_
      obtain ⟨M4, hc4, h⟩ := zbv_inv h
      refine zcallV Hy.1 (as := [.inl (10 : Int32)]) (st := []) (m12_emptySum_met (zOK_G Hy.1) Hy.2.1 hc4) cw12_214 m12_emptySum_in m12_emptySum_se (by decide) (zhlv Hy.2.1 rfl) rfl (zroom Hy.2.2 ⟨by decide, by decide⟩) rfl (by decide +kernel) ⟨Nat.zero_le _, Nat.zero_le _⟩ ?_
      refine zblq Hy.1 Hy.2.1 [(.iconst 0, 1), (.istore 2, 1)] (S' := (78, [(0, .inr (.inr (some (12, 0)))), (1, .inl x1), (2, .inl (0 : Int32))], [], zfR M4)) (b := true) (by decide +kernel) rfl rfl ?_
      refine zGo_keep [0, 1, 2] rfl ?_
      exact m12_beginEpoch_78_ok Hy hE zfu x1 (0 : Int32) M4 h
    · replace h := zite_f h hb22
      obtain ⟨hg17, h⟩ := zgd_inv h
      refine zblq Hy.1 Hy.2.1 [(.aload 0, 1), (.getfield 1219, 3), (.iconst 5, 1), (.dup2, 1), (.iaload, 1), (.aload 0, 1), (.getfield 1216, 3), (.iconst 5, 1), (.iload 2, 1), (.imul, 1), (.iconst 2, 1), (.iadd, 1), (.iaload, 1)] (S' := (40, [(0, .inr (.inr (some (12, 0)))), (1, .inl x1), (2, .inl x2)], [.inl (rg M 1316 0 (nx (((5 : Int32) * x2) + (2 : Int32)))), .inl (rg M 1319 0 (nx (5 : Int32))), .inl (5 : Int32), .inr (.inr (some (1319, 0)))], zfR M)) (b := zin (5 : Int32) 8 && (zin (((5 : Int32) * x2) + (2 : Int32)) 55 && true)) (by decide +kernel) rfl hg17 ?_
      refine zif_le Hy.1 (off := 16) (tgt := 56) (by decide +kernel) (by decide) (fun hb21 => ?_) (fun hb21 => ?_)
      · replace h := zite_t h hb21
        refine zblq Hy.1 Hy.2.1 [(.iconst 0, 1)] (S' := (57, [(0, .inr (.inr (some (12, 0)))), (1, .inl x1), (2, .inl x2)], [.inl (0 : Int32), .inl (rg M 1319 0 (nx (5 : Int32))), .inl (5 : Int32), .inr (.inr (some (1319, 0)))], zfR M)) (b := true) (by decide +kernel) rfl rfl ?_
        refine zGo_keep [0, 1, 2] rfl ?_
        exact m12_beginEpoch_57_ok Hy hE ih x1 x2 (5 : Int32) (rg M 1319 0 (nx (5 : Int32))) (0 : Int32) M h
      · replace h := zite_f h hb21
        obtain ⟨hg19, h⟩ := zgd_inv h
        refine zblq Hy.1 Hy.2.1 [(.aload 0, 1), (.getfield 1217, 3), (.iload 2, 1), (.baload, 1)] (S' := (49, [(0, .inr (.inr (some (12, 0)))), (1, .inl x1), (2, .inl x2)], [.inl (rg M 1317 0 (nx x2)), .inl (rg M 1319 0 (nx (5 : Int32))), .inl (5 : Int32), .inr (.inr (some (1319, 0)))], zfR M)) (b := zin x2 10 && true) (by decide +kernel) rfl hg19 ?_
        refine zif_ne Hy.1 (off := 7) (tgt := 56) (by decide +kernel) (by decide) (fun hb20 => ?_) (fun hb20 => ?_)
        · replace h := zite_f h hb20
          refine zblq Hy.1 Hy.2.1 [(.iconst 0, 1)] (S' := (57, [(0, .inr (.inr (some (12, 0)))), (1, .inl x1), (2, .inl x2)], [.inl (0 : Int32), .inl (rg M 1319 0 (nx (5 : Int32))), .inl (5 : Int32), .inr (.inr (some (1319, 0)))], zfR M)) (b := true) (by decide +kernel) rfl rfl ?_
          refine zGo_keep [0, 1, 2] rfl ?_
          exact m12_beginEpoch_57_ok Hy hE ih x1 x2 (5 : Int32) (rg M 1319 0 (nx (5 : Int32))) (0 : Int32) M h
        · replace h := zite_t h hb20
          refine zblq Hy.1 Hy.2.1 [(.iconst 1, 1), (.ldc 57, 3)] (S' := (57, [(0, .inr (.inr (some (12, 0)))), (1, .inl x1), (2, .inl x2)], [.inl (1 : Int32), .inl (rg M 1319 0 (nx (5 : Int32))), .inl (5 : Int32), .inr (.inr (some (1319, 0)))], zfR M)) (b := true) (by decide +kernel) rfl rfl ?_
          refine zGo_keep [0, 1, 2] rfl ?_
          exact m12_beginEpoch_57_ok Hy hE ih x1 x2 (5 : Int32) (rg M 1319 0 (nx (5 : Int32))) (1 : Int32) M h
def m12_beginEpoch (x1 : Int32) (M : rM) : Option rM := zgd (zin (5 : Int32) 8 && true) (zbd (m12_takeSums M) (fun r2 M2 => zgd (zin (5 : Int32) 8 && true) (m12_beginEpoch_15 zfu x1 (1 : Int32) (rs M2 1319 0 (nx (5 : Int32)) ((rg M 1319 0 (nx (5 : Int32))) + r2)))))
theorem m12_beginEpoch_ok {X : zX} {G : zG} (Hy : zHy X G q12_beginEpoch zcR 1 28 (none)) {M' : rM} (hE : zEnd X G (none) (zfR M')) (x1 : Int32) (M : rM) (h : m12_beginEpoch x1 M = some M') : zGo (X, q12_beginEpoch, G) 0 0 (0, [(0, .inr (.inr (some (12, 0)))), (1, .inl x1)], [], zfR M) := by
  unfold m12_beginEpoch at h
  obtain ⟨hg1, h⟩ := zgd_inv h
  refine zblq Hy.1 Hy.2.1 [(.aload 0, 1), (.getfield 1219, 3), (.iconst 5, 1), (.dup2, 1), (.iaload, 1), (.aload 0, 1)] (S' := (8, [(0, .inr (.inr (some (12, 0)))), (1, .inl x1)], [.inr (.inr (some (12, 0))), .inl (rg M 1319 0 (nx (5 : Int32))), .inl (5 : Int32), .inr (.inr (some (1319, 0)))], zfR M)) (b := zin (5 : Int32) 8 && true) (by decide +kernel) rfl hg1 ?_
  obtain ⟨r2, M2, hc2, h⟩ := zbd_inv h
  refine zcallV Hy.1 (as := []) (st := [.inl (rg M 1319 0 (nx (5 : Int32))), .inl (5 : Int32), .inr (.inr (some (1319, 0)))]) (m12_takeSums_met (zOK_G Hy.1) Hy.2.1 hc2) cw12_207 m12_takeSums_in m12_takeSums_se (by decide) (zhlv Hy.2.1 rfl) rfl (zroom Hy.2.2 ⟨by decide, by decide⟩) rfl (by decide +kernel) ⟨Nat.zero_le _, Nat.zero_le _⟩ ?_
  obtain ⟨hg3, h⟩ := zgd_inv h
  refine zblq Hy.1 Hy.2.1 [(.iadd, 1), (.iastore, 1), (.iconst 1, 1), (.istore 2, 1)] (S' := (15, [(0, .inr (.inr (some (12, 0)))), (1, .inl x1), (2, .inl (1 : Int32))], [], zfR (rs M2 1319 0 (nx (5 : Int32)) ((rg M 1319 0 (nx (5 : Int32))) + r2)))) (b := zin (5 : Int32) 8 && true) (by decide +kernel) rfl hg3 ?_
  refine zGo_keep [0, 1, 2] rfl ?_
  exact m12_beginEpoch_15_ok Hy hE zfu x1 (1 : Int32) (rs M2 1319 0 (nx (5 : Int32)) ((rg M 1319 0 (nx (5 : Int32))) + r2)) h
theorem m12_beginEpoch_met {l : Launch} {G : zG} (hG : zGok G) (hcn : zgcn G = zcR) {x1 : Int32} {M : rM} {M' : rM} (h : m12_beginEpoch x1 M = some M') : zMet l G yX12_beginEpoch cX12_beginEpoch 5 (none) 1 28 [.inr (.inr (some (12, 0))), .inl x1] (zfR M) (none) (zfR M') :=
  zMet_of hG tbX12_ok rfl (by decide +kernel) (Nat.le_of_ble_eq_true rfl) (fun X _ Z hA hE => m12_beginEpoch_ok ⟨Z, hcn, hA⟩ hE x1 M h)
abbrev q12_putOnRow : ByteArray × Nat × String × zT := (cX12_putOnRow, 6, RX12, tbX12)
def m12_putOnRow_19 : Nat → Int32 → Int32 → Int32 → Int32 → rM → Option rM
  | 0, _, _, _, _, _ => none
  | n + 1, x1, x2, x4, x5, M => (if (6 : Int32) ≤ x5 then zgd (zin x1 10 && (zin x1 10 && true)) (some (rs M 1314 0 (nx x1) ((rg M 1314 0 (nx x1)) + (1 : Int32)))) else zgd (zin (x2 + x5) 60 && (zin (x4 + x5) 240 && true)) ((m12_putOnRow_19 n) x1 x2 x4 (x5 + (1 : Int32)) (rs M 1315 0 (nx (x4 + x5)) (rg M 1325 0 (nx (x2 + x5))))))
theorem m12_putOnRow_19_ok {X : zX} {G : zG} (Hy : zHy X G q12_putOnRow zcR 0 0 (none)) {M' : rM} (hE : zEnd X G (none) (zfR M')) : ∀ (n : Nat) (x1 : Int32) (x2 : Int32) (x4 : Int32) (x5 : Int32) (M : rM), m12_putOnRow_19 n x1 x2 x4 x5 M = some M' → zGo (X, q12_putOnRow, G) 0 0 (19, [(0, .inr (.inr (some (12, 0)))), (1, .inl x1), (2, .inl x2), (3, .inr (.inr (some (1325, 0)))), (4, .inl x4), (5, .inl x5)], [], zfR M) := by
  intro n
  induction n with
  | zero => intro x1 x2 x4 x5 M h; cases h
  | succ n ih =>
    intro x1 x2 x4 x5 M h
    unfold m12_putOnRow_19 at h
    refine zblq Hy.1 Hy.2.1 [(.iload 5, 2), (.iconst 6, 2)] (S' := (23, [(0, .inr (.inr (some (12, 0)))), (1, .inl x1), (2, .inl x2), (3, .inr (.inr (some (1325, 0)))), (4, .inl x4), (5, .inl x5)], [.inl (6 : Int32), .inl x5], zfR M)) (b := true) (by decide +kernel) rfl rfl ?_
    refine zic_ge Hy.1 (off := 25) (tgt := 48) (by decide +kernel) (by decide) (fun hb4 => ?_) (fun hb4 => ?_)
    · replace h := zite_t h hb4
      obtain ⟨hg2, h⟩ := zgd_inv h
      refine zblq Hy.1 Hy.2.1 [(.aload 0, 1), (.getfield 1214, 3), (.iload 1, 1), (.dup2, 1), (.iaload, 1), (.iconst 1, 1), (.iadd, 1), (.iastore, 1)] (S' := (58, [(0, .inr (.inr (some (12, 0)))), (1, .inl x1), (2, .inl x2), (3, .inr (.inr (some (1325, 0)))), (4, .inl x4), (5, .inl x5)], [], zfR (rs M 1314 0 (nx x1) ((rg M 1314 0 (nx x1)) + (1 : Int32))))) (b := zin x1 10 && (zin x1 10 && true)) (by decide +kernel) rfl hg2 ?_
      cases h
      exact zret_v Hy.1 Hy.2.2 hE (by decide +kernel)
    · replace h := zite_f h hb4
      obtain ⟨hg3, h⟩ := zgd_inv h
      refine zblq Hy.1 Hy.2.1 [(.aload 0, 1), (.getfield 1215, 3), (.iload 4, 2), (.iload 5, 2), (.iadd, 1), (.aload 3, 1), (.iload 2, 1), (.iload 5, 2), (.iadd, 1), (.iaload, 1), (.iastore, 1), (.iinc 5 1, 3), (.ldc 19, 3)] (S' := (19, [(0, .inr (.inr (some (12, 0)))), (1, .inl x1), (2, .inl x2), (3, .inr (.inr (some (1325, 0)))), (4, .inl x4), (5, .inl (x5 + (1 : Int32)))], [], zfR (rs M 1315 0 (nx (x4 + x5)) (rg M 1325 0 (nx (x2 + x5)))))) (b := zin (x2 + x5) 60 && (zin (x4 + x5) 240 && true)) (by decide +kernel) rfl hg3 ?_
      refine zGo_keep [0, 1, 2, 3, 4, 5] rfl ?_
      exact ih x1 x2 x4 (x5 + (1 : Int32)) (rs M 1315 0 (nx (x4 + x5)) (rg M 1325 0 (nx (x2 + x5)))) h
def m12_putOnRow (x1 : Int32) (x2 : Int32) (M : rM) : Option rM := zgd (zin x1 10 && true) (m12_putOnRow_19 zfu x1 x2 (((24 : Int32) * x1) + ((6 : Int32) * (rg M 1314 0 (nx x1)))) (0 : Int32) M)
theorem m12_putOnRow_ok {X : zX} {G : zG} (Hy : zHy X G q12_putOnRow zcR 0 0 (none)) {M' : rM} (hE : zEnd X G (none) (zfR M')) (x1 : Int32) (x2 : Int32) (M : rM) (h : m12_putOnRow x1 x2 M = some M') : zGo (X, q12_putOnRow, G) 0 0 (0, [(0, .inr (.inr (some (12, 0)))), (1, .inl x1), (2, .inl x2), (3, .inr (.inr (some (1325, 0))))], [], zfR M) := by
  unfold m12_putOnRow at h
  obtain ⟨hg1, h⟩ := zgd_inv h
  refine zblq Hy.1 Hy.2.1 [(.iconst 24, 2), (.iload 1, 1), (.imul, 1), (.iconst 6, 2), (.aload 0, 1), (.getfield 1214, 3), (.iload 1, 1), (.iaload, 1), (.imul, 1), (.iadd, 1), (.istore 4, 2), (.iconst 0, 1), (.istore 5, 2)] (S' := (19, [(0, .inr (.inr (some (12, 0)))), (1, .inl x1), (2, .inl x2), (3, .inr (.inr (some (1325, 0)))), (4, .inl (((24 : Int32) * x1) + ((6 : Int32) * (rg M 1314 0 (nx x1))))), (5, .inl (0 : Int32))], [], zfR M)) (b := zin x1 10 && true) (by decide +kernel) rfl hg1 ?_
  refine zGo_keep [0, 1, 2, 3, 4, 5] rfl ?_
  exact m12_putOnRow_19_ok Hy hE zfu x1 x2 (((24 : Int32) * x1) + ((6 : Int32) * (rg M 1314 0 (nx x1)))) (0 : Int32) M h
theorem m12_putOnRow_met {l : Launch} {G : zG} (hG : zGok G) (hcn : zgcn G = zcR) {x1 : Int32} {x2 : Int32} {M : rM} {M' : rM} (h : m12_putOnRow x1 x2 M = some M') : zMet l G yX12_putOnRow cX12_putOnRow 6 (none) 0 0 [.inr (.inr (some (12, 0))), .inl x1, .inl x2, .inr (.inr (some (1325, 0)))] (zfR M) (none) (zfR M') :=
  zMet_of hG tbX12_ok rfl (by decide +kernel) (Nat.le_of_ble_eq_true rfl) (fun X _ Z hA hE => m12_putOnRow_ok ⟨Z, hcn, hA⟩ hE x1 x2 M h)
