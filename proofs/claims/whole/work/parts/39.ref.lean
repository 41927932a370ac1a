abbrev q12_quarrel : ByteArray × Nat × String × zT := (cX12_quarrel, 5, RX12, tbX12)
def m12_quarrel_82 (k4 : Int32 → Int32 → rM → Option (Int32 × rM)) (x1 : Int32) (x2 : Int32) (M : rM) : Option (Int32 × rM) := k4 x1 (x2 + (1 : Int32)) M
theorem m12_quarrel_82_ok {X : zX} {G : zG} (Hy : zHy X G q12_quarrel zcR 2 52 (some .int)) {r : Int32} {M' : rM} (hE : zEnd X G (some (.inl r)) (zfR M')) {k4 : Int32 → Int32 → rM → Option (Int32 × rM)} (hk4 : ∀ (x1 : Int32) (x2 : Int32) (M : rM), k4 x1 x2 M = some (r, M') → zGo (X, q12_quarrel, G) 0 0 (4, [(0, .inr (.inr (some (12, 0)))), (1, .inl x1), (2, .inl x2)], [], zfR M)) (x1 : Int32) (x2 : Int32) (M : rM) (h : m12_quarrel_82 k4 x1 x2 M = some (r, M')) : zGo (X, q12_quarrel, G) 0 0 (82, [(0, .inr (.inr (some (12, 0)))), (1, .inl x1), (2, .inl x2)], [], zfR M) := by
  unfold m12_quarrel_82 at h
  refine zblq Hy.1 Hy.2.1 [(.iinc 2 1, 3), (.ldc 4, 3)] (S' := (4, [(0, .inr (.inr (some (12, 0)))), (1, .inl x1), (2, .inl (x2 + (1 : Int32)))], [], zfR M)) (b := true) (by decide +kernel) rfl rfl ?_
  refine zGo_keep [0, 1, 2] rfl ?_
  exact hk4 x1 (x2 + (1 : Int32)) M h
def m12_quarrel_81 (k4 : Int32 → Int32 → rM → Option (Int32 × rM)) (x2 : Int32) (t0 : Int32) (M : rM) : Option (Int32 × rM) := m12_quarrel_82 k4 t0 x2 M
theorem m12_quarrel_81_ok {X : zX} {G : zG} (Hy : zHy X G q12_quarrel zcR 2 52 (some .int)) {r : Int32} {M' : rM} (hE : zEnd X G (some (.inl r)) (zfR M')) {k4 : Int32 → Int32 → rM → Option (Int32 × rM)} (hk4 : ∀ (x1 : Int32) (x2 : Int32) (M : rM), k4 x1 x2 M = some (r, M') → zGo (X, q12_quarrel, G) 0 0 (4, [(0, .inr (.inr (some (12, 0)))), (1, .inl x1), (2, .inl x2)], [], zfR M)) (x2 : Int32) (t0 : Int32) (M : rM) (h : m12_quarrel_81 k4 x2 t0 M = some (r, M')) : zGo (X, q12_quarrel, G) 0 0 (81, [(0, .inr (.inr (some (12, 0)))), (2, .inl x2)], [.inl t0], zfR M) := by
  unfold m12_quarrel_81 at h
  refine zblq Hy.1 Hy.2.1 [(.istore 1, 1)] (S' := (82, [(0, .inr (.inr (some (12, 0)))), (1, .inl t0), (2, .inl x2)], [], zfR M)) (b := true) (by decide +kernel) rfl rfl ?_
  refine zGo_keep [0, 1, 2] rfl ?_
  exact m12_quarrel_82_ok Hy hE hk4 t0 x2 M h
def m12_quarrel_72 (k4 : Int32 → Int32 → rM → Option (Int32 × rM)) (x1 : Int32) (x2 : Int32) (x3 : Int32) (M : rM) : Option (Int32 × rM) := (if x3 = 0 then m12_quarrel_81 k4 x2 x1 M else m12_quarrel_81 k4 x2 x2 M)
theorem m12_quarrel_72_ok {X : zX} {G : zG} (Hy : zHy X G q12_quarrel zcR 2 52 (some .int)) {r : Int32} {M' : rM} (hE : zEnd X G (some (.inl r)) (zfR M')) {k4 : Int32 → Int32 → rM → Option (Int32 × rM)} (hk4 : ∀ (x1 : Int32) (x2 : Int32) (M : rM), k4 x1 x2 M = some (r, M') → zGo (X, q12_quarrel, G) 0 0 (4, [(0, .inr (.inr (some (12, 0)))), (1, .inl x1), (2, .inl x2)], [], zfR M)) (x1 : Int32) (x2 : Int32) (x3 : Int32) (M : rM) (h : m12_quarrel_72 k4 x1 x2 x3 M = some (r, M')) : zGo (X, q12_quarrel, G) 0 0 (72, [(0, .inr (.inr (some (12, 0)))), (1, .inl x1), (2, .inl x2), (3, .inl x3)], [], zfR M) := by
  unfold m12_quarrel_72 at h
  refine zblq Hy.1 Hy.2.1 [(.iload 3, 1)] (S' := (73, [(0, .inr (.inr (some (12, 0)))), (1, .inl x1), (2, .inl x2), (3, .inl x3)], [.inl x3], zfR M)) (b := true) (by decide +kernel) rfl rfl ?_
  refine zif_eq Hy.1 (off := 7) (tgt := 80) (by decide +kernel) (by decide) (fun hb2 => ?_) (fun hb2 => ?_)
  · replace h := zite_t h hb2
    refine zblq Hy.1 Hy.2.1 [(.iload 1, 1)] (S' := (81, [(0, .inr (.inr (some (12, 0)))), (1, .inl x1), (2, .inl x2), (3, .inl x3)], [.inl x1], zfR M)) (b := true) (by decide +kernel) rfl rfl ?_
    refine zGo_keep [0, 2] rfl ?_
    exact m12_quarrel_81_ok Hy hE hk4 x2 x1 M h
  · replace h := zite_f h hb2
    refine zblq Hy.1 Hy.2.1 [(.iload 2, 1), (.ldc 81, 3)] (S' := (81, [(0, .inr (.inr (some (12, 0)))), (1, .inl x1), (2, .inl x2), (3, .inl x3)], [.inl x2], zfR M)) (b := true) (by decide +kernel) rfl rfl ?_
    refine zGo_keep [0, 2] rfl ?_
    exact m12_quarrel_81_ok Hy hE hk4 x2 x2 M h
def m12_quarrel_40 (k4 : Int32 → Int32 → rM → Option (Int32 × rM)) : Nat → Int32 → Int32 → Int32 → Int32 → rM → Option (Int32 × rM)
  | 0, _, _, _, _, _ => none
  | n + 1, x1, x2, x3, x4, M => zbd (m12_allCourses M) (fun r1 M1 => (if r1 ≤ x4 then m12_quarrel_72 k4 x1 x2 x3 M1 else (if x3 = 0 then zbd (m12_agrees x4 ((rg M1 12 0 71) ||| x2) M1) (fun r3 M3 => (m12_quarrel_40 k4 n) x1 x2 r3 (x4 + (1 : Int32)) M3) else m12_quarrel_72 k4 x1 x2 x3 M1)))
theorem m12_quarrel_40_ok {X : zX} {G : zG} (Hy : zHy X G q12_quarrel zcR 2 52 (some .int)) {r : Int32} {M' : rM} (hE : zEnd X G (some (.inl r)) (zfR M')) {k4 : Int32 → Int32 → rM → Option (Int32 × rM)} (hk4 : ∀ (x1 : Int32) (x2 : Int32) (M : rM), k4 x1 x2 M = some (r, M') → zGo (X, q12_quarrel, G) 0 0 (4, [(0, .inr (.inr (some (12, 0)))), (1, .inl x1), (2, .inl x2)], [], zfR M)) : ∀ (n : Nat) (x1 : Int32) (x2 : Int32) (x3 : Int32) (x4 : Int32) (M : rM), m12_quarrel_40 k4 n x1 x2 x3 x4 M = some (r, M') → zGo (X, q12_quarrel, G) 0 0 (40, [(0, .inr (.inr (some (12, 0)))), (1, .inl x1), (2, .inl x2), (3, .inl x3), (4, .inl x4)], [], zfR M) := by
  intro n
  induction n with
  | zero => intro x1 x2 x3 x4 M h; cases h
  | succ n ih =>
    intro x1 x2 x3 x4 M h
    unfold m12_quarrel_40 at h
    refine zblq Hy.1 Hy.2.1 [(.iload 4, 2), (.aload 0, 1)] (S' := (43, [(0, .inr (.inr (some (12, 0)))), (1, .inl x1), (2, .inl x2), (3, .inl x3), (4, .inl x4)], [.inr (.inr (some (12, 0))), .inl x4], zfR M)) (b := true) (by decide +kernel) rfl rfl ?_
    obtain ⟨r1, M1, hc1, h⟩ := zbd_inv h
    refine zcallV Hy.1 (as := []) (st := [.inl x4]) (m12_allCourses_met (zOK_G Hy.1) Hy.2.1 hc1) cw12_428 m12_allCourses_in m12_allCourses_se (by decide) (zhlv Hy.2.1 rfl) rfl (zroom Hy.2.2 ⟨by decide, by decide⟩) rfl (by decide +kernel) ⟨Nat.zero_le _, Nat.zero_le _⟩ ?_
    refine zic_ge Hy.1 (off := 26) (tgt := 72) (by decide +kernel) (by decide) (fun hb5 => ?_) (fun hb5 => ?_)
    · replace h := zite_t h hb5
      refine zGo_keep [0, 1, 2, 3] rfl ?_
      exact m12_quarrel_72_ok Hy hE hk4 x1 x2 x3 M1 h
    · replace h := zite_f h hb5
      refine zblq Hy.1 Hy.2.1 [(.iload 3, 1)] (S' := (50, [(0, .inr (.inr (some (12, 0)))), (1, .inl x1), (2, .inl x2), (3, .inl x3), (4, .inl x4)], [.inl x3], zfR M1)) (b := true) (by decide +kernel) rfl rfl ?_
      refine zif_ne Hy.1 (off := 22) (tgt := 72) (by decide +kernel) (by decide) (fun hb4 => ?_) (fun hb4 => ?_)
      · replace h := zite_f h hb4
        refine zGo_keep [0, 1, 2, 3] rfl ?_
        exact m12_quarrel_72_ok Hy hE hk4 x1 x2 x3 M1 h
      · replace h := zite_t h hb4
        refine zblq Hy.1 Hy.2.1 [(.aload 0, 1), (.iload 4, 2), (.aload 0, 1), (.multianewarray 12 71, 3), (.iload 2, 1), (.ior, 1)] (S' := (62, [(0, .inr (.inr (some (12, 0)))), (1, .inl x1), (2, .inl x2), (3, .inl x3), (4, .inl x4)], [.inl ((rg M1 12 0 71) ||| x2), .inl x4, .inr (.inr (some (12, 0)))], zfR M1)) (b := true) (by decide +kernel) rfl rfl ?_
        obtain ⟨r3, M3, hc3, h⟩ := zbd_inv h
        refine zcallV Hy.1 (as := [.inl x4, .inl ((rg M1 12 0 71) ||| x2)]) (st := []) (m12_agrees_met (zOK_G Hy.1) Hy.2.1 hc3) cw12_431 m12_agrees_in m12_agrees_se (by decide) (zhlv Hy.2.1 rfl) rfl (zroom Hy.2.2 ⟨by decide, by decide⟩) rfl (by decide +kernel) ⟨Nat.zero_le _, Nat.zero_le _⟩ ?_
        refine zblq Hy.1 Hy.2.1 [(.istore 3, 1), (.iinc 4 1, 3), (.ldc 40, 3)] (S' := (40, [(0, .inr (.inr (some (12, 0)))), (1, .inl x1), (2, .inl x2), (3, .inl r3), (4, .inl (x4 + (1 : Int32)))], [], zfR M3)) (b := true) (by decide +kernel) rfl rfl ?_
        refine zGo_keep [0, 1, 2, 3, 4] rfl ?_
        exact ih x1 x2 r3 (x4 + (1 : Int32)) M3 h
def m12_quarrel_35 (k4 : Int32 → Int32 → rM → Option (Int32 × rM)) (x1 : Int32) (x2 : Int32) (M : rM) : Option (Int32 × rM) := m12_quarrel_40 k4 zfu x1 x2 (0 : Int32) (0 : Int32) M
theorem m12_quarrel_35_ok {X : zX} {G : zG} (Hy : zHy X G q12_quarrel zcR 2 52 (some .int)) {r : Int32} {M' : rM} (hE : zEnd X G (some (.inl r)) (zfR M')) {k4 : Int32 → Int32 → rM → Option (Int32 × rM)} (hk4 : ∀ (x1 : Int32) (x2 : Int32) (M : rM), k4 x1 x2 M = some (r, M') → zGo (X, q12_quarrel, G) 0 0 (4, [(0, .inr (.inr (some (12, 0)))), (1, .inl x1), (2, .inl x2)], [], zfR M)) (x1 : Int32) (x2 : Int32) (M : rM) (h : m12_quarrel_35 k4 x1 x2 M = some (r, M')) : zGo (X, q12_quarrel, G) 0 0 (35, [(0, .inr (.inr (some (12, 0)))), (1, .inl x1), (2, .inl x2)], [], zfR M) := by
  unfold m12_quarrel_35 at h
  refine zblq Hy.1 Hy.2.1 [(.iconst 0, 1), (.istore 3, 1), (.iconst 0, 1), (.istore 4, 2)] (S' := (40, [(0, .inr (.inr (some (12, 0)))), (1, .inl x1), (2, .inl x2), (3, .inl (0 : Int32)), (4, .inl (0 : Int32))], [], zfR M)) (b := true) (by decide +kernel) rfl rfl ?_
  refine zGo_keep [0, 1, 2, 3, 4] rfl ?_
  exact m12_quarrel_40_ok Hy hE hk4 zfu x1 x2 (0 : Int32) (0 : Int32) M h
def m12_quarrel_4 : Nat → Int32 → Int32 → rM → Option (Int32 × rM)
  | 0, _, _, _ => none
  | n + 1, x1, x2, M => (if (64 : Int32) ≤ x2 then some (x1, M) else (if (x2 &&& (rg M 12 0 71)) = 0 then (if x1 = (-1 : Int32) then m12_quarrel_35 (m12_quarrel_4 n) x1 x2 M else zbd (m12_bits x2 M) (fun r6 M6 => zbd (m12_bits x1 M6) (fun r7 M7 => (if r7 ≤ r6 then m12_quarrel_82 (m12_quarrel_4 n) x1 x2 M7 else m12_quarrel_35 (m12_quarrel_4 n) x1 x2 M7)))) else m12_quarrel_82 (m12_quarrel_4 n) x1 x2 M))
theorem m12_quarrel_4_ok {X : zX} {G : zG} (Hy : zHy X G q12_quarrel zcR 2 52 (some .int)) {r : Int32} {M' : rM} (hE : zEnd X G (some (.inl r)) (zfR M')) : ∀ (n : Nat) (x1 : Int32) (x2 : Int32) (M : rM), m12_quarrel_4 n x1 x2 M = some (r, M') → zGo (X, q12_quarrel, G) 0 0 (4, [(0, .inr (.inr (some (12, 0)))), (1, .inl x1), (2, .inl x2)], [], zfR M) := by
  intro n
  induction n with
  | zero => intro x1 x2 M h; cases h
  | succ n ih =>
    intro x1 x2 M h
    unfold m12_quarrel_4 at h
    refine zblq Hy.1 Hy.2.1 [(.iload 2, 1), (.iconst 64, 2)] (S' := (7, [(0, .inr (.inr (some (12, 0)))), (1, .inl x1), (2, .inl x2)], [.inl (64 : Int32), .inl x2], zfR M)) (b := true) (by decide +kernel) rfl rfl ?_
    refine zic_ge Hy.1 (off := 81) (tgt := 88) (by decide +kernel) (by decide) (fun hb11 => ?_) (fun hb11 => ?_)
    · replace h := zite_t h hb11
      refine zblq Hy.1 Hy.2.1 [(.iload 1, 1)] (S' := (89, [(0, .inr (.inr (some (12, 0)))), (1, .inl x1), (2, .inl x2)], [.inl x1], zfR M)) (b := true) (by decide +kernel) rfl rfl ?_
      cases h
      exact zret_i Hy.1 Hy.2.2 hE (by decide +kernel)
    · replace h := zite_f h hb11
      refine zblq Hy.1 Hy.2.1 [(.iload 2, 1), (.aload 0, 1), (.multianewarray 12 71, 3), (.iand, 1)] (S' := (16, [(0, .inr (.inr (some (12, 0)))), (1, .inl x1), (2, .inl x2)], [.inl (x2 &&& (rg M 12 0 71))], zfR M)) (b := true) (by decide +kernel) rfl rfl ?_
      refine zif_ne Hy.1 (off := 66) (tgt := 82) (by decide +kernel) (by decide) (fun hb10 => ?_) (fun hb10 => ?_)
      · replace h := zite_f h hb10
        refine zGo_keep [0, 1, 2] rfl ?_
        exact m12_quarrel_82_ok Hy hE ih x1 x2 M h
      · replace h := zite_t h hb10
        refine zblq Hy.1 Hy.2.1 [(.iload 1, 1), (.iconst (-1), 1)] (S' := (21, [(0, .inr (.inr (some (12, 0)))), (1, .inl x1), (2, .inl x2)], [.inl (-1 : Int32), .inl x1], zfR M)) (b := true) (by decide +kernel) rfl rfl ?_
        refine zic_eq Hy.1 (off := 14) (tgt := 35) (by decide +kernel) (by decide) (fun hb9 => ?_) (fun hb9 => ?_)
        · replace h := zite_t h hb9
          refine zGo_keep [0, 1, 2] rfl ?_
          exact m12_quarrel_35_ok Hy hE ih x1 x2 M h
        · replace h := zite_f h hb9
          refine zblq Hy.1 Hy.2.1 [(.iload 2, 1)] (S' := (25, [(0, .inr (.inr (some (12, 0)))), (1, .inl x1), (2, .inl x2)], [.inl x2], zfR M)) (b := true) (by decide +kernel) rfl rfl ?_
          obtain ⟨r6, M6, hc6, h⟩ := zbd_inv h
          refine zcallS Hy.1 (as := [.inl x2]) (st := []) (m12_bits_met (zOK_G Hy.1) Hy.2.1 hc6) cw12_390 m12_bits_in rfl (zroom Hy.2.2 ⟨by decide, by decide⟩) rfl (by decide +kernel) ⟨Nat.zero_le _, Nat.zero_le _⟩ ?_
          refine zblq Hy.1 Hy.2.1 [(.iload 1, 1)] (S' := (29, [(0, .inr (.inr (some (12, 0)))), (1, .inl x1), (2, .inl x2)], [.inl x1, .inl r6], zfR M6)) (b := true) (by decide +kernel) rfl rfl ?_
          obtain ⟨r7, M7, hc7, h⟩ := zbd_inv h
          refine zcallS Hy.1 (as := [.inl x1]) (st := [.inl r6]) (m12_bits_met (zOK_G Hy.1) Hy.2.1 hc7) cw12_390 m12_bits_in rfl (zroom Hy.2.2 ⟨by decide, by decide⟩) rfl (by decide +kernel) ⟨Nat.zero_le _, Nat.zero_le _⟩ ?_
          refine zic_ge Hy.1 (off := 50) (tgt := 82) (by decide +kernel) (by decide) (fun hb8 => ?_) (fun hb8 => ?_)
          · replace h := zite_t h hb8
            refine zGo_keep [0, 1, 2] rfl ?_
            exact m12_quarrel_82_ok Hy hE ih x1 x2 M7 h
          · replace h := zite_f h hb8
            refine zGo_keep [0, 1, 2] rfl ?_
            exact m12_quarrel_35_ok Hy hE ih x1 x2 M7 h
def m12_quarrel  (M : rM) : Option (Int32 × rM) := m12_quarrel_4 zfu (-1 : Int32) (0 : Int32) M
theorem m12_quarrel_ok {X : zX} {G : zG} (Hy : zHy X G q12_quarrel zcR 2 52 (some .int)) {r : Int32} {M' : rM} (hE : zEnd X G (some (.inl r)) (zfR M'))  (M : rM) (h : m12_quarrel M = some (r, M')) : zGo (X, q12_quarrel, G) 0 0 (0, [(0, .inr (.inr (some (12, 0))))], [], zfR M) := by
  unfold m12_quarrel at h
  refine zblq Hy.1 Hy.2.1 [(.iconst (-1), 1), (.istore 1, 1), (.iconst 0, 1), (.istore 2, 1)] (S' := (4, [(0, .inr (.inr (some (12, 0)))), (1, .inl (-1 : Int32)), (2, .inl (0 : Int32))], [], zfR M)) (b := true) (by decide +kernel) rfl rfl ?_
  refine zGo_keep [0, 1, 2] rfl ?_
  exact m12_quarrel_4_ok Hy hE zfu (-1 : Int32) (0 : Int32) M h
theorem m12_quarrel_met {l : Launch} {G : zG} (hG : zGok G) (hcn : zgcn G = zcR)  {M : rM} {r : Int32} {M' : rM} (h : m12_quarrel M = some (r, M')) : zMet l G yX12_quarrel cX12_quarrel 5 (some .int) 2 52 [.inr (.inr (some (12, 0)))] (zfR M) (some (.inl r)) (zfR M') :=
  zMet_of hG tbX12_ok rfl (by decide +kernel) (Nat.le_of_ble_eq_true rfl) (fun X _ Z hA hE => m12_quarrel_ok ⟨Z, hcn, hA⟩ hE M h)
abbrev q12_told : ByteArray × Nat × String × zT := (cX12_told, 6, RX12, tbX12)
def m12_told_89 (k5 : Int32 → Int32 → Int32 → Int32 → rM → Option (Int32 × rM)) (x1 : Int32) (x2 : Int32) (x3 : Int32) (x4 : Int32) (M : rM) : Option (Int32 × rM) := k5 x1 x2 x3 (x4 + (1 : Int32)) M
theorem m12_told_89_ok {X : zX} {G : zG} (Hy : zHy X G q12_told zcR 1 24 (some .int)) {r : Int32} {M' : rM} (hE : zEnd X G (some (.inl r)) (zfR M')) {k5 : Int32 → Int32 → Int32 → Int32 → rM → Option (Int32 × rM)} (hk5 : ∀ (x1 : Int32) (x2 : Int32) (x3 : Int32) (x4 : Int32) (M : rM), k5 x1 x2 x3 x4 M = some (r, M') → zGo (X, q12_told, G) 0 0 (5, [(0, .inr (.inr (some (12, 0)))), (1, .inl x1), (2, .inl x2), (3, .inl x3), (4, .inl x4)], [], zfR M)) (x1 : Int32) (x2 : Int32) (x3 : Int32) (x4 : Int32) (M : rM) (h : m12_told_89 k5 x1 x2 x3 x4 M = some (r, M')) : zGo (X, q12_told, G) 0 0 (89, [(0, .inr (.inr (some (12, 0)))), (1, .inl x1), (2, .inl x2), (3, .inl x3), (4, .inl x4)], [], zfR M) := by
  unfold m12_told_89 at h
  refine zblq Hy.1 Hy.2.1 [(.iinc 4 1, 3), (.ldc 5, 3)] (S' := (5, [(0, .inr (.inr (some (12, 0)))), (1, .inl x1), (2, .inl x2), (3, .inl x3), (4, .inl (x4 + (1 : Int32)))], [], zfR M)) (b := true) (by decide +kernel) rfl rfl ?_
  refine zGo_keep [0, 1, 2, 3, 4] rfl ?_
  exact hk5 x1 x2 x3 (x4 + (1 : Int32)) M h
def m12_told_82 (k5 : Int32 → Int32 → Int32 → Int32 → rM → Option (Int32 × rM)) (k15 : Int32 → Int32 → Int32 → Int32 → Int32 → rM → Option (Int32 × rM)) (x1 : Int32) (x2 : Int32) (x4 : Int32) (x5 : Int32) (t0 : Int32) (M : rM) : Option (Int32 × rM) := k15 x1 x2 t0 x4 (x5 + (1 : Int32)) M
theorem m12_told_82_ok {X : zX} {G : zG} (Hy : zHy X G q12_told zcR 1 24 (some .int)) {r : Int32} {M' : rM} (hE : zEnd X G (some (.inl r)) (zfR M')) {k5 : Int32 → Int32 → Int32 → Int32 → rM → Option (Int32 × rM)} (hk5 : ∀ (x1 : Int32) (x2 : Int32) (x3 : Int32) (x4 : Int32) (M : rM), k5 x1 x2 x3 x4 M = some (r, M') → zGo (X, q12_told, G) 0 0 (5, [(0, .inr (.inr (some (12, 0)))), (1, .inl x1), (2, .inl x2), (3, .inl x3), (4, .inl x4)], [], zfR M)) {k15 : Int32 → Int32 → Int32 → Int32 → Int32 → rM → Option (Int32 × rM)} (hk15 : ∀ (x1 : Int32) (x2 : Int32) (x3 : Int32) (x4 : Int32) (x5 : Int32) (M : rM), k15 x1 x2 x3 x4 x5 M = some (r, M') → zGo (X, q12_told, G) 0 0 (15, [(0, .inr (.inr (some (12, 0)))), (1, .inl x1), (2, .inl x2), (3, .inl x3), (4, .inl x4), (5, .inl x5)], [], zfR M)) (x1 : Int32) (x2 : Int32) (x4 : Int32) (x5 : Int32) (t0 : Int32) (M : rM) (h : m12_told_82 k5 k15 x1 x2 x4 x5 t0 M = some (r, M')) : zGo (X, q12_told, G) 0 0 (82, [(0, .inr (.inr (some (12, 0)))), (1, .inl x1), (2, .inl x2), (4, .inl x4), (5, .inl x5)], [.inl t0], zfR M) := by
  unfold m12_told_82 at h
  refine zblq Hy.1 Hy.2.1 [(.istore 3, 1), (.iinc 5 1, 3), (.ldc 15, 3)] (S' := (15, [(0, .inr (.inr (some (12, 0)))), (1, .inl x1), (2, .inl x2), (3, .inl t0), (4, .inl x4), (5, .inl (x5 + (1 : Int32)))], [], zfR M)) (b := true) (by decide +kernel) rfl rfl ?_
  refine zGo_keep [0, 1, 2, 3, 4, 5] rfl ?_
  exact hk15 x1 x2 t0 x4 (x5 + (1 : Int32)) M h
def m12_told_77 (k5 : Int32 → Int32 → Int32 → Int32 → rM → Option (Int32 × rM)) (k15 : Int32 → Int32 → Int32 → Int32 → Int32 → rM → Option (Int32 × rM)) (x1 : Int32) (x2 : Int32) (x4 : Int32) (x5 : Int32) (t0 : Int32) (t1 : Int32) (M : rM) : Option (Int32 × rM) := m12_told_82 k5 k15 x1 x2 x4 x5 (t0 + t1) M
theorem m12_told_77_ok {X : zX} {G : zG} (Hy : zHy X G q12_told zcR 1 24 (some .int)) {r : Int32} {M' : rM} (hE : zEnd X G (some (.inl r)) (zfR M')) {k5 : Int32 → Int32 → Int32 → Int32 → rM → Option (Int32 × rM)} (hk5 : ∀ (x1 : Int32) (x2 : Int32) (x3 : Int32) (x4 : Int32) (M : rM), k5 x1 x2 x3 x4 M = some (r, M') → zGo (X, q12_told, G) 0 0 (5, [(0, .inr (.inr (some (12, 0)))), (1, .inl x1), (2, .inl x2), (3, .inl x3), (4, .inl x4)], [], zfR M)) {k15 : Int32 → Int32 → Int32 → Int32 → Int32 → rM → Option (Int32 × rM)} (hk15 : ∀ (x1 : Int32) (x2 : Int32) (x3 : Int32) (x4 : Int32) (x5 : Int32) (M : rM), k15 x1 x2 x3 x4 x5 M = some (r, M') → zGo (X, q12_told, G) 0 0 (15, [(0, .inr (.inr (some (12, 0)))), (1, .inl x1), (2, .inl x2), (3, .inl x3), (4, .inl x4), (5, .inl x5)], [], zfR M)) (x1 : Int32) (x2 : Int32) (x4 : Int32) (x5 : Int32) (t0 : Int32) (t1 : Int32) (M : rM) (h : m12_told_77 k5 k15 x1 x2 x4 x5 t0 t1 M = some (r, M')) : zGo (X, q12_told, G) 0 0 (77, [(0, .inr (.inr (some (12, 0)))), (1, .inl x1), (2, .inl x2), (4, .inl x4), (5, .inl x5)], [.inl t1, .inl t0], zfR M) := by
  unfold m12_told_77 at h
  refine zblq Hy.1 Hy.2.1 [(.iadd, 1), (.ldc 82, 3)] (S' := (82, [(0, .inr (.inr (some (12, 0)))), (1, .inl x1), (2, .inl x2), (4, .inl x4), (5, .inl x5)], [.inl (t0 + t1)], zfR M)) (b := true) (by decide +kernel) rfl rfl ?_
  refine zGo_keep [0, 1, 2, 4, 5] rfl ?_
  exact m12_told_82_ok Hy hE hk5 hk15 x1 x2 x4 x5 (t0 + t1) M h
def m12_told_15 (k5 : Int32 → Int32 → Int32 → Int32 → rM → Option (Int32 × rM)) : Nat → Int32 → Int32 → Int32 → Int32 → Int32 → rM → Option (Int32 × rM)
  | 0, _, _, _, _, _, _ => none
  | n + 1, x1, x2, x3, x4, x5, M => (if (rg M 12 0 67) ≤ x5 then m12_told_89 k5 x1 x2 x3 x4 M else zbd (m12_isIn x2 x4 M) (fun r1 M1 => (if r1 = 0 then m12_told_89 k5 x1 x2 x3 x4 M1 else zgd (zin (((5 : Int32) * x4) + x5) 30 && true) ((if (rg M1 1370 0 (nx (((5 : Int32) * x4) + x5))) = (2 : Int32) then zgd (zin x4 6 && true) (zbd (m12_spotOf x1 x5 M1) (fun r4 M4 => zbd (m12_isIn (rg M1 1369 0 (nx x4)) r4 M4) (fun r5 M5 => (if r5 = 0 then m12_told_77 k5 (m12_told_15 k5 n) x1 x2 x4 x5 ((2 : Int32) * x3) (0 : Int32) M5 else m12_told_77 k5 (m12_told_15 k5 n) x1 x2 x4 x5 ((2 : Int32) * x3) (1 : Int32) M5)))) else m12_told_82 k5 (m12_told_15 k5 n) x1 x2 x4 x5 x3 M1)))))
theorem m12_told_15_ok {X : zX} {G : zG} (Hy : zHy X G q12_told zcR 1 24 (some .int)) {r : Int32} {M' : rM} (hE : zEnd X G (some (.inl r)) (zfR M')) {k5 : Int32 → Int32 → Int32 → Int32 → rM → Option (Int32 × rM)} (hk5 : ∀ (x1 : Int32) (x2 : Int32) (x3 : Int32) (x4 : Int32) (M : rM), k5 x1 x2 x3 x4 M = some (r, M') → zGo (X, q12_told, G) 0 0 (5, [(0, .inr (.inr (some (12, 0)))), (1, .inl x1), (2, .inl x2), (3, .inl x3), (4, .inl x4)], [], zfR M)) : ∀ (n : Nat) (x1 : Int32) (x2 : Int32) (x3 : Int32) (x4 : Int32) (x5 : Int32) (M : rM), m12_told_15 k5 n x1 x2 x3 x4 x5 M = some (r, M') → zGo (X, q12_told, G) 0 0 (15, [(0, .inr (.inr (some (12, 0)))), (1, .inl x1), (2, .inl x2), (3, .inl x3), (4, .inl x4), (5, .inl x5)], [], zfR M) := by
  intro n
  induction n with
  | zero => intro x1 x2 x3 x4 x5 M h; cases h
  | succ n ih =>
    intro x1 x2 x3 x4 x5 M h
    unfold m12_told_15 at h
    refine zblq Hy.1 Hy.2.1 [(.iload 5, 2), (.aload 0, 1), (.multianewarray 12 67, 3)] (S' := (21, [(0, .inr (.inr (some (12, 0)))), (1, .inl x1), (2, .inl x2), (3, .inl x3), (4, .inl x4), (5, .inl x5)], [.inl (rg M 12 0 67), .inl x5], zfR M)) (b := true) (by decide +kernel) rfl rfl ?_
    refine zic_ge Hy.1 (off := 68) (tgt := 89) (by decide +kernel) (by decide) (fun hb9 => ?_) (fun hb9 => ?_)
    · replace h := zite_t h hb9
      refine zGo_keep [0, 1, 2, 3, 4] rfl ?_
      exact m12_told_89_ok Hy hE hk5 x1 x2 x3 x4 M h
    · replace h := zite_f h hb9
      refine zblq Hy.1 Hy.2.1 [(.iload 2, 1), (.iload 4, 2)] (S' := (27, [(0, .inr (.inr (some (12, 0)))), (1, .inl x1), (2, .inl x2), (3, .inl x3), (4, .inl x4), (5, .inl x5)], [.inl x4, .inl x2], zfR M)) (b := true) (by decide +kernel) rfl rfl ?_
      obtain ⟨r1, M1, hc1, h⟩ := zbd_inv h
      refine zcallS Hy.1 (as := [.inl x2, .inl x4]) (st := []) (m12_isIn_met (zOK_G Hy.1) Hy.2.1 hc1) cw12_183 m12_isIn_in rfl (zroom Hy.2.2 ⟨by decide, by decide⟩) rfl (by decide +kernel) ⟨Nat.zero_le _, Nat.zero_le _⟩ ?_
      refine zif_eq Hy.1 (off := 59) (tgt := 89) (by decide +kernel) (by decide) (fun hb8 => ?_) (fun hb8 => ?_)
      · replace h := zite_t h hb8
        refine zGo_keep [0, 1, 2, 3, 4] rfl ?_
        exact m12_told_89_ok Hy hE hk5 x1 x2 x3 x4 M1 h
      · replace h := zite_f h hb8
        obtain ⟨hg2, h⟩ := zgd_inv h
        refine zblq Hy.1 Hy.2.1 [(.aload 0, 1), (.getfield 1270, 3), (.iconst 5, 1), (.iload 4, 2), (.imul, 1), (.iload 5, 2), (.iadd, 1), (.iaload, 1), (.iconst 2, 1)] (S' := (46, [(0, .inr (.inr (some (12, 0)))), (1, .inl x1), (2, .inl x2), (3, .inl x3), (4, .inl x4), (5, .inl x5)], [.inl (2 : Int32), .inl (rg M1 1370 0 (nx (((5 : Int32) * x4) + x5)))], zfR M1)) (b := zin (((5 : Int32) * x4) + x5) 30 && true) (by decide +kernel) rfl hg2 ?_
        refine zic_ne Hy.1 (off := 35) (tgt := 81) (by decide +kernel) (by decide) (fun hb7 => ?_) (fun hb7 => ?_)
        · replace h := zite_f h hb7
          refine zblq Hy.1 Hy.2.1 [(.iload 3, 1)] (S' := (82, [(0, .inr (.inr (some (12, 0)))), (1, .inl x1), (2, .inl x2), (3, .inl x3), (4, .inl x4), (5, .inl x5)], [.inl x3], zfR M1)) (b := true) (by decide +kernel) rfl rfl ?_
          refine zGo_keep [0, 1, 2, 4, 5] rfl ?_
          exact m12_told_82_ok Hy hE hk5 ih x1 x2 x4 x5 x3 M1 h
        · replace h := zite_t h hb7
          obtain ⟨hg3, h⟩ := zgd_inv h
          refine zblq Hy.1 Hy.2.1 [(.iconst 2, 1), (.iload 3, 1), (.imul, 1), (.aload 0, 1), (.getfield 1269, 3), (.iload 4, 2), (.iaload, 1), (.aload 0, 1), (.iload 1, 1), (.iload 5, 2)] (S' := (63, [(0, .inr (.inr (some (12, 0)))), (1, .inl x1), (2, .inl x2), (3, .inl x3), (4, .inl x4), (5, .inl x5)], [.inl x5, .inl x1, .inr (.inr (some (12, 0))), .inl (rg M1 1369 0 (nx x4)), .inl ((2 : Int32) * x3)], zfR M1)) (b := zin x4 6 && true) (by decide +kernel) rfl hg3 ?_
          obtain ⟨r4, M4, hc4, h⟩ := zbd_inv h
          refine zcallV Hy.1 (as := [.inl x1, .inl x5]) (st := [.inl (rg M1 1369 0 (nx x4)), .inl ((2 : Int32) * x3)]) (m12_spotOf_met (zOK_G Hy.1) Hy.2.1 hc4) cw12_422 m12_spotOf_in m12_spotOf_se (by decide) (zhlv Hy.2.1 rfl) rfl (zroom Hy.2.2 ⟨by decide, by decide⟩) rfl (by decide +kernel) ⟨Nat.zero_le _, Nat.zero_le _⟩ ?_
          obtain ⟨r5, M5, hc5, h⟩ := zbd_inv h
          refine zcallS Hy.1 (as := [.inl (rg M1 1369 0 (nx x4)), .inl r4]) (st := [.inl ((2 : Int32) * x3)]) (m12_isIn_met (zOK_G Hy.1) Hy.2.1 hc5) cw12_183 m12_isIn_in rfl (zroom Hy.2.2 ⟨by decide, by decide⟩) rfl (by decide +kernel) ⟨Nat.zero_le _, Nat.zero_le _⟩ ?_
          refine zif_eq Hy.1 (off := 7) (tgt := 76) (by decide +kernel) (by decide) (fun hb6 => ?_) (fun hb6 => ?_)
          · replace h := zite_t h hb6
            refine zblq Hy.1 Hy.2.1 [(.iconst 0, 1)] (S' := (77, [(0, .inr (.inr (some (12, 0)))), (1, .inl x1), (2, .inl x2), (3, .inl x3), (4, .inl x4), (5, .inl x5)], [.inl (0 : Int32), .inl ((2 : Int32) * x3)], zfR M5)) (b := true) (by decide +kernel) rfl rfl ?_
            refine zGo_keep [0, 1, 2, 4, 5] rfl ?_
            exact m12_told_77_ok Hy hE hk5 ih x1 x2 x4 x5 ((2 : Int32) * x3) (0 : Int32) M5 h
          · replace h := zite_f h hb6
            refine zblq Hy.1 Hy.2.1 [(.iconst 1, 1), (.ldc 77, 3)] (S' := (77, [(0, .inr (.inr (some (12, 0)))), (1, .inl x1), (2, .inl x2), (3, .inl x3), (4, .inl x4), (5, .inl x5)], [.inl (1 : Int32), .inl ((2 : Int32) * x3)], zfR M5)) (b := true) (by decide +kernel) rfl rfl ?_
            refine zGo_keep [0, 1, 2, 4, 5] rfl ?_
            exact m12_told_77_ok Hy hE hk5 ih x1 x2 x4 x5 ((2 : Int32) * x3) (1 : Int32) M5 h
def m12_told_5 : Nat → Int32 → Int32 → Int32 → Int32 → rM → Option (Int32 × rM)
  | 0, _, _, _, _, _ => none
  | n + 1, x1, x2, x3, x4, M => (if (6 : Int32) ≤ x4 then some (x3, M) else m12_told_15 (m12_told_5 n) zfu x1 x2 x3 x4 (0 : Int32) M)
theorem m12_told_5_ok {X : zX} {G : zG} (Hy : zHy X G q12_told zcR 1 24 (some .int)) {r : Int32} {M' : rM} (hE : zEnd X G (some (.inl r)) (zfR M')) : ∀ (n : Nat) (x1 : Int32) (x2 : Int32) (x3 : Int32) (x4 : Int32) (M : rM), m12_told_5 n x1 x2 x3 x4 M = some (r, M') → zGo (X, q12_told, G) 0 0 (5, [(0, .inr (.inr (some (12, 0)))), (1, .inl x1), (2, .inl x2), (3, .inl x3), (4, .inl x4)], [], zfR M) := by
  intro n
  induction n with
  | zero => intro x1 x2 x3 x4 M h; cases h
  | succ n ih =>
    intro x1 x2 x3 x4 M h
    unfold m12_told_5 at h
    refine zblq Hy.1 Hy.2.1 [(.iload 4, 2), (.iconst 6, 2)] (S' := (9, [(0, .inr (.inr (some (12, 0)))), (1, .inl x1), (2, .inl x2), (3, .inl x3), (4, .inl x4)], [.inl (6 : Int32), .inl x4], zfR M)) (b := true) (by decide +kernel) rfl rfl ?_
    refine zic_ge Hy.1 (off := 86) (tgt := 95) (by decide +kernel) (by decide) (fun hb10 => ?_) (fun hb10 => ?_)
    · replace h := zite_t h hb10
      refine zblq Hy.1 Hy.2.1 [(.iload 3, 1)] (S' := (96, [(0, .inr (.inr (some (12, 0)))), (1, .inl x1), (2, .inl x2), (3, .inl x3), (4, .inl x4)], [.inl x3], zfR M)) (b := true) (by decide +kernel) rfl rfl ?_
      cases h
      exact zret_i Hy.1 Hy.2.2 hE (by decide +kernel)
    · replace h := zite_f h hb10
      refine zblq Hy.1 Hy.2.1 [(.iconst 0, 1), (.istore 5, 2)] (S' := (15, [(0, .inr (.inr (some (12, 0)))), (1, .inl x1), (2, .inl x2), (3, .inl x3), (4, .inl x4), (5, .inl (0 : Int32))], [], zfR M)) (b := true) (by decide +kernel) rfl rfl ?_
      refine zGo_keep [0, 1, 2, 3, 4, 5] rfl ?_
      exact m12_told_15_ok Hy hE ih zfu x1 x2 x3 x4 (0 : Int32) M h
def m12_told (x1 : Int32) (x2 : Int32) (M : rM) : Option (Int32 × rM) := m12_told_5 zfu x1 x2 (1 : Int32) (0 : Int32) M
theorem m12_told_ok {X : zX} {G : zG} (Hy : zHy X G q12_told zcR 1 24 (some .int)) {r : Int32} {M' : rM} (hE : zEnd X G (some (.inl r)) (zfR M')) (x1 : Int32) (x2 : Int32) (M : rM) (h : m12_told x1 x2 M = some (r, M')) : zGo (X, q12_told, G) 0 0 (0, [(0, .inr (.inr (some (12, 0)))), (1, .inl x1), (2, .inl x2)], [], zfR M) := by
  unfold m12_told at h
  refine zblq Hy.1 Hy.2.1 [(.iconst 1, 1), (.istore 3, 1), (.iconst 0, 1), (.istore 4, 2)] (S' := (5, [(0, .inr (.inr (some (12, 0)))), (1, .inl x1), (2, .inl x2), (3, .inl (1 : Int32)), (4, .inl (0 : Int32))], [], zfR M)) (b := true) (by decide +kernel) rfl rfl ?_
  refine zGo_keep [0, 1, 2, 3, 4] rfl ?_
  exact m12_told_5_ok Hy hE zfu x1 x2 (1 : Int32) (0 : Int32) M h
theorem m12_told_met {l : Launch} {G : zG} (hG : zGok G) (hcn : zgcn G = zcR) {x1 : Int32} {x2 : Int32} {M : rM} {r : Int32} {M' : rM} (h : m12_told x1 x2 M = some (r, M')) : zMet l G yX12_told cX12_told 6 (some .int) 1 24 [.inr (.inr (some (12, 0))), .inl x1, .inl x2] (zfR M) (some (.inl r)) (zfR M') :=
  zMet_of hG tbX12_ok rfl (by decide +kernel) (Nat.le_of_ble_eq_true rfl) (fun X _ Z hA hE => m12_told_ok ⟨Z, hcn, hA⟩ hE x1 x2 M h)
abbrev q12_settles : ByteArray × Nat × String × zT := (cX12_settles, 11, RX12, tbX12)
def m12_settles_161 (k28 : Int32 → Int32 → Int32 → Int32 → Int32 → Int32 → Int32 → rM → Option (Int32 × rM)) (x1 : Int32) (x2 : Int32) (x3 : Int32) (x4 : Int32) (x5 : Int32) (x6 : Int32) (x7 : Int32) (x8 : Int32) (x9 : Int32) (x10 : Int32) (M : rM) : Option (Int32 × rM) := zgd (zin x10 16384 && (zin x10 16384 && true)) (k28 x1 x2 x3 x4 x5 x6 (x7 + (1 : Int32)) (rs (rs M 1374 0 (nx x10) x8) 1375 0 (nx x10) x9))
theorem m12_settles_161_ok {X : zX} {G : zG} (Hy : zHy X G q12_settles zcR 2 54 (some .boolean)) {r : Int32} {M' : rM} (hE : zEnd X G (some (.inl r)) (zfR M')) {k28 : Int32 → Int32 → Int32 → Int32 → Int32 → Int32 → Int32 → rM → Option (Int32 × rM)} (hk28 : ∀ (x1 : Int32) (x2 : Int32) (x3 : Int32) (x4 : Int32) (x5 : Int32) (x6 : Int32) (x7 : Int32) (M : rM), k28 x1 x2 x3 x4 x5 x6 x7 M = some (r, M') → zGo (X, q12_settles, G) 0 0 (28, [(0, .inr (.inr (some (12, 0)))), (1, .inl x1), (2, .inl x2), (3, .inl x3), (4, .inl x4), (5, .inl x5), (6, .inl x6), (7, .inl x7)], [], zfR M)) (x1 : Int32) (x2 : Int32) (x3 : Int32) (x4 : Int32) (x5 : Int32) (x6 : Int32) (x7 : Int32) (x8 : Int32) (x9 : Int32) (x10 : Int32) (M : rM) (h : m12_settles_161 k28 x1 x2 x3 x4 x5 x6 x7 x8 x9 x10 M = some (r, M')) : zGo (X, q12_settles, G) 0 0 (161, [(0, .inr (.inr (some (12, 0)))), (1, .inl x1), (2, .inl x2), (3, .inl x3), (4, .inl x4), (5, .inl x5), (6, .inl x6), (7, .inl x7), (8, .inl x8), (9, .inl x9), (10, .inl x10)], [], zfR M) := by
  unfold m12_settles_161 at h
  obtain ⟨hg8, h⟩ := zgd_inv h
  refine zblq Hy.1 Hy.2.1 [(.aload 0, 1), (.getfield 1274, 3), (.iload 10, 2), (.iload 8, 2), (.iastore, 1), (.aload 0, 1), (.getfield 1275, 3), (.iload 10, 2), (.iload 9, 2), (.iastore, 1), (.iinc 7 1, 3), (.ldc 28, 3)] (S' := (28, [(0, .inr (.inr (some (12, 0)))), (1, .inl x1), (2, .inl x2), (3, .inl x3), (4, .inl x4), (5, .inl x5), (6, .inl x6), (7, .inl (x7 + (1 : Int32))), (8, .inl x8), (9, .inl x9), (10, .inl x10)], [], zfR (rs (rs M 1374 0 (nx x10) x8) 1375 0 (nx x10) x9))) (b := zin x10 16384 && (zin x10 16384 && true)) (by decide +kernel) rfl hg8 ?_
  refine zGo_keep [0, 1, 2, 3, 4, 5, 6, 7] rfl ?_
  exact hk28 x1 x2 x3 x4 x5 x6 (x7 + (1 : Int32)) (rs (rs M 1374 0 (nx x10) x8) 1375 0 (nx x10) x9) h
def m12_settles_135 (k28 : Int32 → Int32 → Int32 → Int32 → Int32 → Int32 → Int32 → rM → Option (Int32 × rM)) (x1 : Int32) (x2 : Int32) (x3 : Int32) (x4 : Int32) (x5 : Int32) (x6 : Int32) (x7 : Int32) (x8 : Int32) (x9 : Int32) (x10 : Int32) (M : rM) : Option (Int32 × rM) := zgd (zin x10 16384 && true) ((if (rg M 1374 0 (nx x10)) = x8 then zgd (zin x10 16384 && true) ((if (rg M 1375 0 (nx x10)) = x9 then m12_settles_161 k28 x1 x2 x3 x4 x5 x6 x7 x8 x9 x10 M else some ((0 : Int32), M))) else m12_settles_161 k28 x1 x2 x3 x4 x5 x6 x7 x8 x9 x10 M))
theorem m12_settles_135_ok {X : zX} {G : zG} (Hy : zHy X G q12_settles zcR 2 54 (some .boolean)) {r : Int32} {M' : rM} (hE : zEnd X G (some (.inl r)) (zfR M')) {k28 : Int32 → Int32 → Int32 → Int32 → Int32 → Int32 → Int32 → rM → Option (Int32 × rM)} (hk28 : ∀ (x1 : Int32) (x2 : Int32) (x3 : Int32) (x4 : Int32) (x5 : Int32) (x6 : Int32) (x7 : Int32) (M : rM), k28 x1 x2 x3 x4 x5 x6 x7 M = some (r, M') → zGo (X, q12_settles, G) 0 0 (28, [(0, .inr (.inr (some (12, 0)))), (1, .inl x1), (2, .inl x2), (3, .inl x3), (4, .inl x4), (5, .inl x5), (6, .inl x6), (7, .inl x7)], [], zfR M)) (x1 : Int32) (x2 : Int32) (x3 : Int32) (x4 : Int32) (x5 : Int32) (x6 : Int32) (x7 : Int32) (x8 : Int32) (x9 : Int32) (x10 : Int32) (M : rM) (h : m12_settles_135 k28 x1 x2 x3 x4 x5 x6 x7 x8 x9 x10 M = some (r, M')) : zGo (X, q12_settles, G) 0 0 (135, [(0, .inr (.inr (some (12, 0)))), (1, .inl x1), (2, .inl x2), (3, .inl x3), (4, .inl x4), (5, .inl x5), (6, .inl x6), (7, .inl x7), (8, .inl x8), (9, .inl x9), (10, .inl x10)], [], zfR M) := by
  unfold m12_settles_135 at h
  obtain ⟨hg7, h⟩ := zgd_inv h
  refine zblq Hy.1 Hy.2.1 [(.aload 0, 1), (.getfield 1274, 3), (.iload 10, 2), (.iaload, 1), (.iload 8, 2)] (S' := (144, [(0, .inr (.inr (some (12, 0)))), (1, .inl x1), (2, .inl x2), (3, .inl x3), (4, .inl x4), (5, .inl x5), (6, .inl x6), (7, .inl x7), (8, .inl x8), (9, .inl x9), (10, .inl x10)], [.inl x8, .inl (rg M 1374 0 (nx x10))], zfR M)) (b := zin x10 16384 && true) (by decide +kernel) rfl hg7 ?_
  refine zic_ne Hy.1 (off := 17) (tgt := 161) (by decide +kernel) (by decide) (fun hb11 => ?_) (fun hb11 => ?_)
  · replace h := zite_f h hb11
    refine zGo_keep [0, 1, 2, 3, 4, 5, 6, 7, 8, 9, 10] rfl ?_
    exact m12_settles_161_ok Hy hE hk28 x1 x2 x3 x4 x5 x6 x7 x8 x9 x10 M h
  · replace h := zite_t h hb11
    obtain ⟨hg9, h⟩ := zgd_inv h
    refine zblq Hy.1 Hy.2.1 [(.aload 0, 1), (.getfield 1275, 3), (.iload 10, 2), (.iaload, 1), (.iload 9, 2)] (S' := (156, [(0, .inr (.inr (some (12, 0)))), (1, .inl x1), (2, .inl x2), (3, .inl x3), (4, .inl x4), (5, .inl x5), (6, .inl x6), (7, .inl x7), (8, .inl x8), (9, .inl x9), (10, .inl x10)], [.inl x9, .inl (rg M 1375 0 (nx x10))], zfR M)) (b := zin x10 16384 && true) (by decide +kernel) rfl hg9 ?_
    refine zic_eq Hy.1 (off := 5) (tgt := 161) (by decide +kernel) (by decide) (fun hb10 => ?_) (fun hb10 => ?_)
    · replace h := zite_t h hb10
      refine zGo_keep [0, 1, 2, 3, 4, 5, 6, 7, 8, 9, 10] rfl ?_
      exact m12_settles_161_ok Hy hE hk28 x1 x2 x3 x4 x5 x6 x7 x8 x9 x10 M h
    · replace h := zite_f h hb10
      refine zblq Hy.1 Hy.2.1 [(.iconst 0, 1)] (S' := (160, [(0, .inr (.inr (some (12, 0)))), (1, .inl x1), (2, .inl x2), (3, .inl x3), (4, .inl x4), (5, .inl x5), (6, .inl x6), (7, .inl x7), (8, .inl x8), (9, .inl x9), (10, .inl x10)], [.inl (0 : Int32)], zfR M)) (b := true) (by decide +kernel) rfl rfl ?_
      cases h
      exact zret_z Hy.1 Hy.2.2 (by decide) hE (by decide +kernel)
def m12_settles_130 (k28 : Int32 → Int32 → Int32 → Int32 → Int32 → Int32 → Int32 → rM → Option (Int32 × rM)) (k92 : Int32 → Int32 → Int32 → Int32 → Int32 → Int32 → Int32 → Int32 → Int32 → Int32 → rM → Option (Int32 × rM)) (x1 : Int32) (x2 : Int32) (x3 : Int32) (x4 : Int32) (x5 : Int32) (x6 : Int32) (x7 : Int32) (x8 : Int32) (x9 : Int32) (t0 : Int32) (M : rM) : Option (Int32 × rM) := k92 x1 x2 x3 x4 x5 x6 x7 x8 x9 t0 M
theorem m12_settles_130_ok {X : zX} {G : zG} (Hy : zHy X G q12_settles zcR 2 54 (some .boolean)) {r : Int32} {M' : rM} (hE : zEnd X G (some (.inl r)) (zfR M')) {k28 : Int32 → Int32 → Int32 → Int32 → Int32 → Int32 → Int32 → rM → Option (Int32 × rM)} (hk28 : ∀ (x1 : Int32) (x2 : Int32) (x3 : Int32) (x4 : Int32) (x5 : Int32) (x6 : Int32) (x7 : Int32) (M : rM), k28 x1 x2 x3 x4 x5 x6 x7 M = some (r, M') → zGo (X, q12_settles, G) 0 0 (28, [(0, .inr (.inr (some (12, 0)))), (1, .inl x1), (2, .inl x2), (3, .inl x3), (4, .inl x4), (5, .inl x5), (6, .inl x6), (7, .inl x7)], [], zfR M)) {k92 : Int32 → Int32 → Int32 → Int32 → Int32 → Int32 → Int32 → Int32 → Int32 → Int32 → rM → Option (Int32 × rM)} (hk92 : ∀ (x1 : Int32) (x2 : Int32) (x3 : Int32) (x4 : Int32) (x5 : Int32) (x6 : Int32) (x7 : Int32) (x8 : Int32) (x9 : Int32) (x10 : Int32) (M : rM), k92 x1 x2 x3 x4 x5 x6 x7 x8 x9 x10 M = some (r, M') → zGo (X, q12_settles, G) 0 0 (92, [(0, .inr (.inr (some (12, 0)))), (1, .inl x1), (2, .inl x2), (3, .inl x3), (4, .inl x4), (5, .inl x5), (6, .inl x6), (7, .inl x7), (8, .inl x8), (9, .inl x9), (10, .inl x10)], [], zfR M)) (x1 : Int32) (x2 : Int32) (x3 : Int32) (x4 : Int32) (x5 : Int32) (x6 : Int32) (x7 : Int32) (x8 : Int32) (x9 : Int32) (t0 : Int32) (M : rM) (h : m12_settles_130 k28 k92 x1 x2 x3 x4 x5 x6 x7 x8 x9 t0 M = some (r, M')) : zGo (X, q12_settles, G) 0 0 (130, [(0, .inr (.inr (some (12, 0)))), (1, .inl x1), (2, .inl x2), (3, .inl x3), (4, .inl x4), (5, .inl x5), (6, .inl x6), (7, .inl x7), (8, .inl x8), (9, .inl x9)], [.inl t0], zfR M) := by
  unfold m12_settles_130 at h
  refine zblq Hy.1 Hy.2.1 [(.istore 10, 2), (.ldc 92, 3)] (S' := (92, [(0, .inr (.inr (some (12, 0)))), (1, .inl x1), (2, .inl x2), (3, .inl x3), (4, .inl x4), (5, .inl x5), (6, .inl x6), (7, .inl x7), (8, .inl x8), (9, .inl x9), (10, .inl t0)], [], zfR M)) (b := true) (by decide +kernel) rfl rfl ?_
  refine zGo_keep [0, 1, 2, 3, 4, 5, 6, 7, 8, 9, 10] rfl ?_
  exact hk92 x1 x2 x3 x4 x5 x6 x7 x8 x9 t0 M h
def m12_settles_92 (k28 : Int32 → Int32 → Int32 → Int32 → Int32 → Int32 → Int32 → rM → Option (Int32 × rM)) : Nat → Int32 → Int32 → Int32 → Int32 → Int32 → Int32 → Int32 → Int32 → Int32 → Int32 → rM → Option (Int32 × rM)
  | 0, _, _, _, _, _, _, _, _, _, _, _ => none
  | n + 1, x1, x2, x3, x4, x5, x6, x7, x8, x9, x10, M => zgd (zin x10 16384 && true) ((if (rg M 1374 0 (nx x10)) = 0 then m12_settles_135 k28 x1 x2 x3 x4 x5 x6 x7 x8 x9 x10 M else zgd (zin x10 16384 && true) ((if (rg M 1374 0 (nx x10)) = x8 then m12_settles_135 k28 x1 x2 x3 x4 x5 x6 x7 x8 x9 x10 M else (if x10 = (16383 : Int32) then m12_settles_130 k28 (m12_settles_92 k28 n) x1 x2 x3 x4 x5 x6 x7 x8 x9 (0 : Int32) M else m12_settles_130 k28 (m12_settles_92 k28 n) x1 x2 x3 x4 x5 x6 x7 x8 x9 (x10 + (1 : Int32)) M)))))
theorem m12_settles_92_ok {X : zX} {G : zG} (Hy : zHy X G q12_settles zcR 2 54 (some .boolean)) {r : Int32} {M' : rM} (hE : zEnd X G (some (.inl r)) (zfR M')) {k28 : Int32 → Int32 → Int32 → Int32 → Int32 → Int32 → Int32 → rM → Option (Int32 × rM)} (hk28 : ∀ (x1 : Int32) (x2 : Int32) (x3 : Int32) (x4 : Int32) (x5 : Int32) (x6 : Int32) (x7 : Int32) (M : rM), k28 x1 x2 x3 x4 x5 x6 x7 M = some (r, M') → zGo (X, q12_settles, G) 0 0 (28, [(0, .inr (.inr (some (12, 0)))), (1, .inl x1), (2, .inl x2), (3, .inl x3), (4, .inl x4), (5, .inl x5), (6, .inl x6), (7, .inl x7)], [], zfR M)) : ∀ (n : Nat) (x1 : Int32) (x2 : Int32) (x3 : Int32) (x4 : Int32) (x5 : Int32) (x6 : Int32) (x7 : Int32) (x8 : Int32) (x9 : Int32) (x10 : Int32) (M : rM), m12_settles_92 k28 n x1 x2 x3 x4 x5 x6 x7 x8 x9 x10 M = some (r, M') → zGo (X, q12_settles, G) 0 0 (92, [(0, .inr (.inr (some (12, 0)))), (1, .inl x1), (2, .inl x2), (3, .inl x3), (4, .inl x4), (5, .inl x5), (6, .inl x6), (7, .inl x7), (8, .inl x8), (9, .inl x9), (10, .inl x10)], [], zfR M) := by
  intro n
  induction n with
  | zero => intro x1 x2 x3 x4 x5 x6 x7 x8 x9 x10 M h; cases h
  | succ n ih =>
    intro x1 x2 x3 x4 x5 x6 x7 x8 x9 x10 M h
    unfold m12_settles_92 at h
    obtain ⟨hg6, h⟩ := zgd_inv h
    refine zblq Hy.1 Hy.2.1 [(.aload 0, 1), (.getfield 1274, 3), (.iload 10, 2), (.iaload, 1)] (S' := (99, [(0, .inr (.inr (some (12, 0)))), (1, .inl x1), (2, .inl x2), (3, .inl x3), (4, .inl x4), (5, .inl x5), (6, .inl x6), (7, .inl x7), (8, .inl x8), (9, .inl x9), (10, .inl x10)], [.inl (rg M 1374 0 (nx x10))], zfR M)) (b := zin x10 16384 && true) (by decide +kernel) rfl hg6 ?_
    refine zif_eq Hy.1 (off := 36) (tgt := 135) (by decide +kernel) (by decide) (fun hb15 => ?_) (fun hb15 => ?_)
    · replace h := zite_t h hb15
      refine zGo_keep [0, 1, 2, 3, 4, 5, 6, 7, 8, 9, 10] rfl ?_
      exact m12_settles_135_ok Hy hE hk28 x1 x2 x3 x4 x5 x6 x7 x8 x9 x10 M h
    · replace h := zite_f h hb15
      obtain ⟨hg12, h⟩ := zgd_inv h
      refine zblq Hy.1 Hy.2.1 [(.aload 0, 1), (.getfield 1274, 3), (.iload 10, 2), (.iaload, 1), (.iload 8, 2)] (S' := (111, [(0, .inr (.inr (some (12, 0)))), (1, .inl x1), (2, .inl x2), (3, .inl x3), (4, .inl x4), (5, .inl x5), (6, .inl x6), (7, .inl x7), (8, .inl x8), (9, .inl x9), (10, .inl x10)], [.inl x8, .inl (rg M 1374 0 (nx x10))], zfR M)) (b := zin x10 16384 && true) (by decide +kernel) rfl hg12 ?_
      refine zic_eq Hy.1 (off := 24) (tgt := 135) (by decide +kernel) (by decide) (fun hb14 => ?_) (fun hb14 => ?_)
      · replace h := zite_t h hb14
        refine zGo_keep [0, 1, 2, 3, 4, 5, 6, 7, 8, 9, 10] rfl ?_
        exact m12_settles_135_ok Hy hE hk28 x1 x2 x3 x4 x5 x6 x7 x8 x9 x10 M h
      · replace h := zite_f h hb14
        refine zblq Hy.1 Hy.2.1 [(.iload 10, 2), (.iconst 16383, 3)] (S' := (119, [(0, .inr (.inr (some (12, 0)))), (1, .inl x1), (2, .inl x2), (3, .inl x3), (4, .inl x4), (5, .inl x5), (6, .inl x6), (7, .inl x7), (8, .inl x8), (9, .inl x9), (10, .inl x10)], [.inl (16383 : Int32), .inl x10], zfR M)) (b := true) (by decide +kernel) rfl rfl ?_
        refine zic_ne Hy.1 (off := 7) (tgt := 126) (by decide +kernel) (by decide) (fun hb13 => ?_) (fun hb13 => ?_)
        · replace h := zite_f h hb13
          refine zblq Hy.1 Hy.2.1 [(.iload 10, 2), (.iconst 1, 1), (.iadd, 1)] (S' := (130, [(0, .inr (.inr (some (12, 0)))), (1, .inl x1), (2, .inl x2), (3, .inl x3), (4, .inl x4), (5, .inl x5), (6, .inl x6), (7, .inl x7), (8, .inl x8), (9, .inl x9), (10, .inl x10)], [.inl (x10 + (1 : Int32))], zfR M)) (b := true) (by decide +kernel) rfl rfl ?_
          refine zGo_keep [0, 1, 2, 3, 4, 5, 6, 7, 8, 9] rfl ?_
          exact m12_settles_130_ok Hy hE hk28 ih x1 x2 x3 x4 x5 x6 x7 x8 x9 (x10 + (1 : Int32)) M h
        · replace h := zite_t h hb13
          refine zblq Hy.1 Hy.2.1 [(.iconst 0, 1), (.ldc 130, 3)] (S' := (130, [(0, .inr (.inr (some (12, 0)))), (1, .inl x1), (2, .inl x2), (3, .inl x3), (4, .inl x4), (5, .inl x5), (6, .inl x6), (7, .inl x7), (8, .inl x8), (9, .inl x9), (10, .inl x10)], [.inl (0 : Int32)], zfR M)) (b := true) (by decide +kernel) rfl rfl ?_
          refine zGo_keep [0, 1, 2, 3, 4, 5, 6, 7, 8, 9] rfl ?_
          exact m12_settles_130_ok Hy hE hk28 ih x1 x2 x3 x4 x5 x6 x7 x8 x9 (0 : Int32) M h
def m12_settles_78 (k28 : Int32 → Int32 → Int32 → Int32 → Int32 → Int32 → Int32 → rM → Option (Int32 × rM)) (x1 : Int32) (x2 : Int32) (x3 : Int32) (x4 : Int32) (x5 : Int32) (x6 : Int32) (x7 : Int32) (x8 : Int32) (t0 : Int32) (M : rM) : Option (Int32 × rM) := zgd (znz (16381 : Int32) && true) (m12_settles_92 k28 zfu x1 x2 x3 x4 x5 x6 x7 x8 t0 (zrem (x8 &&& (1073741823 : Int32)) (16381 : Int32)) M)
theorem m12_settles_78_ok {X : zX} {G : zG} (Hy : zHy X G q12_settles zcR 2 54 (some .boolean)) {r : Int32} {M' : rM} (hE : zEnd X G (some (.inl r)) (zfR M')) {k28 : Int32 → Int32 → Int32 → Int32 → Int32 → Int32 → Int32 → rM → Option (Int32 × rM)} (hk28 : ∀ (x1 : Int32) (x2 : Int32) (x3 : Int32) (x4 : Int32) (x5 : Int32) (x6 : Int32) (x7 : Int32) (M : rM), k28 x1 x2 x3 x4 x5 x6 x7 M = some (r, M') → zGo (X, q12_settles, G) 0 0 (28, [(0, .inr (.inr (some (12, 0)))), (1, .inl x1), (2, .inl x2), (3, .inl x3), (4, .inl x4), (5, .inl x5), (6, .inl x6), (7, .inl x7)], [], zfR M)) (x1 : Int32) (x2 : Int32) (x3 : Int32) (x4 : Int32) (x5 : Int32) (x6 : Int32) (x7 : Int32) (x8 : Int32) (t0 : Int32) (M : rM) (h : m12_settles_78 k28 x1 x2 x3 x4 x5 x6 x7 x8 t0 M = some (r, M')) : zGo (X, q12_settles, G) 0 0 (78, [(0, .inr (.inr (some (12, 0)))), (1, .inl x1), (2, .inl x2), (3, .inl x3), (4, .inl x4), (5, .inl x5), (6, .inl x6), (7, .inl x7), (8, .inl x8)], [.inl t0], zfR M) := by
  unfold m12_settles_78 at h
  obtain ⟨hg5, h⟩ := zgd_inv h
  refine zblq Hy.1 Hy.2.1 [(.istore 9, 2), (.iload 8, 2), (.iconst 1073741823, 3), (.iand, 1), (.iconst 16381, 3), (.irem, 1), (.istore 10, 2)] (S' := (92, [(0, .inr (.inr (some (12, 0)))), (1, .inl x1), (2, .inl x2), (3, .inl x3), (4, .inl x4), (5, .inl x5), (6, .inl x6), (7, .inl x7), (8, .inl x8), (9, .inl t0), (10, .inl (zrem (x8 &&& (1073741823 : Int32)) (16381 : Int32)))], [], zfR M)) (b := znz (16381 : Int32) && true) (by decide +kernel) rfl hg5 ?_
  refine zGo_keep [0, 1, 2, 3, 4, 5, 6, 7, 8, 9, 10] rfl ?_
  exact m12_settles_92_ok Hy hE hk28 zfu x1 x2 x3 x4 x5 x6 x7 x8 t0 (zrem (x8 &&& (1073741823 : Int32)) (16381 : Int32)) M h
def m12_settles_28 : Nat → Int32 → Int32 → Int32 → Int32 → Int32 → Int32 → Int32 → rM → Option (Int32 × rM)
  | 0, _, _, _, _, _, _, _, _ => none
  | n + 1, x1, x2, x3, x4, x5, x6, x7, M => (if (rg M 12 0 72) ≤ x7 then some ((1 : Int32), M) else zgd (zin x7 7776 && true) (zbd (m12_told (rg M 1373 0 (nx x7)) x1 M) (fun r2 M2 => zgd (zin x7 7776 && true) (zbd (m12_isSo (rg M2 1373 0 (nx x7)) x2 x3 x4 x5 x6 M2) (fun r4 M4 => (if r4 = 0 then m12_settles_78 (m12_settles_28 n) x1 x2 x3 x4 x5 x6 x7 r2 (0 : Int32) M4 else m12_settles_78 (m12_settles_28 n) x1 x2 x3 x4 x5 x6 x7 r2 (1 : Int32) M4))))))
theorem m12_settles_28_ok {X : zX} {G : zG} (Hy : zHy X G q12_settles zcR 2 54 (some .boolean)) {r : Int32} {M' : rM} (hE : zEnd X G (some (.inl r)) (zfR M')) : ∀ (n : Nat) (x1 : Int32) (x2 : Int32) (x3 : Int32) (x4 : Int32) (x5 : Int32) (x6 : Int32) (x7 : Int32) (M : rM), m12_settles_28 n x1 x2 x3 x4 x5 x6 x7 M = some (r, M') → zGo (X, q12_settles, G) 0 0 (28, [(0, .inr (.inr (some (12, 0)))), (1, .inl x1), (2, .inl x2), (3, .inl x3), (4, .inl x4), (5, .inl x5), (6, .inl x6), (7, .inl x7)], [], zfR M) := by
  intro n
  induction n with
  | zero => intro x1 x2 x3 x4 x5 x6 x7 M h; cases h
  | succ n ih =>
    intro x1 x2 x3 x4 x5 x6 x7 M h
    unfold m12_settles_28 at h
    refine zblq Hy.1 Hy.2.1 [(.iload 7, 2), (.aload 0, 1), (.multianewarray 12 72, 3)] (S' := (34, [(0, .inr (.inr (some (12, 0)))), (1, .inl x1), (2, .inl x2), (3, .inl x3), (4, .inl x4), (5, .inl x5), (6, .inl x6), (7, .inl x7)], [.inl (rg M 12 0 72), .inl x7], zfR M)) (b := true) (by decide +kernel) rfl rfl ?_
    refine zic_ge Hy.1 (off := 151) (tgt := 185) (by decide +kernel) (by decide) (fun hb17 => ?_) (fun hb17 => ?_)
    · replace h := zite_t h hb17
      refine zblq Hy.1 Hy.2.1 [(.iconst 1, 1)] (S' := (186, [(0, .inr (.inr (some (12, 0)))), (1, .inl x1), (2, .inl x2), (3, .inl x3), (4, .inl x4), (5, .inl x5), (6, .inl x6), (7, .inl x7)], [.inl (1 : Int32)], zfR M)) (b := true) (by decide +kernel) rfl rfl ?_
      cases h
      exact zret_z Hy.1 Hy.2.2 (by decide) hE (by decide +kernel)
    · replace h := zite_f h hb17
      obtain ⟨hg1, h⟩ := zgd_inv h
      refine zblq Hy.1 Hy.2.1 [(.aload 0, 1), (.aload 0, 1), (.getfield 1273, 3), (.iload 7, 2), (.iaload, 1), (.iload 1, 1)] (S' := (46, [(0, .inr (.inr (some (12, 0)))), (1, .inl x1), (2, .inl x2), (3, .inl x3), (4, .inl x4), (5, .inl x5), (6, .inl x6), (7, .inl x7)], [.inl x1, .inl (rg M 1373 0 (nx x7)), .inr (.inr (some (12, 0)))], zfR M)) (b := zin x7 7776 && true) (by decide +kernel) rfl hg1 ?_
      obtain ⟨r2, M2, hc2, h⟩ := zbd_inv h
      refine zcallV Hy.1 (as := [.inl (rg M 1373 0 (nx x7)), .inl x1]) (st := []) (m12_told_met (zOK_G Hy.1) Hy.2.1 hc2) cw12_445 m12_told_in m12_told_se (by decide) (zhlv Hy.2.1 rfl) rfl (zroom Hy.2.2 ⟨by decide, by decide⟩) rfl (by decide +kernel) ⟨Nat.zero_le _, Nat.zero_le _⟩ ?_
      obtain ⟨hg3, h⟩ := zgd_inv h
      refine zblq Hy.1 Hy.2.1 [(.istore 8, 2), (.aload 0, 1), (.aload 0, 1), (.getfield 1273, 3), (.iload 7, 2), (.iaload, 1), (.iload 2, 1), (.iload 3, 1), (.iload 4, 2), (.iload 5, 2), (.iload 6, 2)] (S' := (67, [(0, .inr (.inr (some (12, 0)))), (1, .inl x1), (2, .inl x2), (3, .inl x3), (4, .inl x4), (5, .inl x5), (6, .inl x6), (7, .inl x7), (8, .inl r2)], [.inl x6, .inl x5, .inl x4, .inl x3, .inl x2, .inl (rg M2 1373 0 (nx x7)), .inr (.inr (some (12, 0)))], zfR M2)) (b := zin x7 7776 && true) (by decide +kernel) rfl hg3 ?_
      obtain ⟨r4, M4, hc4, h⟩ := zbd_inv h
      refine zcallV Hy.1 (as := [.inl (rg M2 1373 0 (nx x7)), .inl x2, .inl x3, .inl x4, .inl x5, .inl x6]) (st := []) (m12_isSo_met (zOK_G Hy.1) Hy.2.1 hc4) cw12_441 m12_isSo_in m12_isSo_se (by decide) (zhlv Hy.2.1 rfl) rfl (zroom Hy.2.2 ⟨by decide, by decide⟩) rfl (by decide +kernel) ⟨Nat.zero_le _, Nat.zero_le _⟩ ?_
      refine zif_eq Hy.1 (off := 7) (tgt := 77) (by decide +kernel) (by decide) (fun hb16 => ?_) (fun hb16 => ?_)
      · replace h := zite_t h hb16
        refine zblq Hy.1 Hy.2.1 [(.iconst 0, 1)] (S' := (78, [(0, .inr (.inr (some (12, 0)))), (1, .inl x1), (2, .inl x2), (3, .inl x3), (4, .inl x4), (5, .inl x5), (6, .inl x6), (7, .inl x7), (8, .inl r2)], [.inl (0 : Int32)], zfR M4)) (b := true) (by decide +kernel) rfl rfl ?_
        refine zGo_keep [0, 1, 2, 3, 4, 5, 6, 7, 8] rfl ?_
        exact m12_settles_78_ok Hy hE ih x1 x2 x3 x4 x5 x6 x7 r2 (0 : Int32) M4 h
      · replace h := zite_f h hb16
        refine zblq Hy.1 Hy.2.1 [(.iconst 1, 1), (.ldc 78, 3)] (S' := (78, [(0, .inr (.inr (some (12, 0)))), (1, .inl x1), (2, .inl x2), (3, .inl x3), (4, .inl x4), (5, .inl x5), (6, .inl x6), (7, .inl x7), (8, .inl r2)], [.inl (1 : Int32)], zfR M4)) (b := true) (by decide +kernel) rfl rfl ?_
        refine zGo_keep [0, 1, 2, 3, 4, 5, 6, 7, 8] rfl ?_
        exact m12_settles_78_ok Hy hE ih x1 x2 x3 x4 x5 x6 x7 r2 (1 : Int32) M4 h
def m12_settles_3 : Nat → Int32 → Int32 → Int32 → Int32 → Int32 → Int32 → Int32 → rM → Option (Int32 × rM)
  | 0, _, _, _, _, _, _, _, _ => none
  | n + 1, x1, x2, x3, x4, x5, x6, x7, M => (if (16384 : Int32) ≤ x7 then m12_settles_28 zfu x1 x2 x3 x4 x5 x6 (0 : Int32) M else zgd (zin x7 16384 && true) ((m12_settles_3 n) x1 x2 x3 x4 x5 x6 (x7 + (1 : Int32)) (rs M 1374 0 (nx x7) (0 : Int32))))
theorem m12_settles_3_ok {X : zX} {G : zG} (Hy : zHy X G q12_settles zcR 2 54 (some .boolean)) {r : Int32} {M' : rM} (hE : zEnd X G (some (.inl r)) (zfR M')) : ∀ (n : Nat) (x1 : Int32) (x2 : Int32) (x3 : Int32) (x4 : Int32) (x5 : Int32) (x6 : Int32) (x7 : Int32) (M : rM), m12_settles_3 n x1 x2 x3 x4 x5 x6 x7 M = some (r, M') → zGo (X, q12_settles, G) 0 0 (3, [(0, .inr (.inr (some (12, 0)))), (1, .inl x1), (2, .inl x2), (3, .inl x3), (4, .inl x4), (5, .inl x5), (6, .inl x6), (7, .inl x7)], [], zfR M) := by
  intro n
  induction n with
  | zero => intro x1 x2 x3 x4 x5 x6 x7 M h; cases h
  | succ n ih =>
    intro x1 x2 x3 x4 x5 x6 x7 M h
    unfold m12_settles_3 at h
    refine zblq Hy.1 Hy.2.1 [(.iload 7, 2), (.iconst 16384, 3)] (S' := (8, [(0, .inr (.inr (some (12, 0)))), (1, .inl x1), (2, .inl x2), (3, .inl x3), (4, .inl x4), (5, .inl x5), (6, .inl x6), (7, .inl x7)], [.inl (16384 : Int32), .inl x7], zfR M)) (b := true) (by decide +kernel) rfl rfl ?_
    refine zic_ge Hy.1 (off := 17) (tgt := 25) (by decide +kernel) (by decide) (fun hb19 => ?_) (fun hb19 => ?_)
    · replace h := zite_t h hb19
      refine zblq Hy.1 Hy.2.1 [(.iconst 0, 1), (.istore 7, 2)] (S' := (28, [(0, .inr (.inr (some (12, 0)))), (1, .inl x1), (2, .inl x2), (3, .inl x3), (4, .inl x4), (5, .inl x5), (6, .inl x6), (7, .inl (0 : Int32))], [], zfR M)) (b := true) (by decide +kernel) rfl rfl ?_
      refine zGo_keep [0, 1, 2, 3, 4, 5, 6, 7] rfl ?_
      exact m12_settles_28_ok Hy hE zfu x1 x2 x3 x4 x5 x6 (0 : Int32) M h
    · replace h := zite_f h hb19
      obtain ⟨hg18, h⟩ := zgd_inv h
      refine zblq Hy.1 Hy.2.1 [(.aload 0, 1), (.getfield 1274, 3), (.iload 7, 2), (.iconst 0, 1), (.iastore, 1), (.iinc 7 1, 3), (.ldc 3, 3)] (S' := (3, [(0, .inr (.inr (some (12, 0)))), (1, .inl x1), (2, .inl x2), (3, .inl x3), (4, .inl x4), (5, .inl x5), (6, .inl x6), (7, .inl (x7 + (1 : Int32)))], [], zfR (rs M 1374 0 (nx x7) (0 : Int32)))) (b := zin x7 16384 && true) (by decide +kernel) rfl hg18 ?_
      refine zGo_keep [0, 1, 2, 3, 4, 5, 6, 7] rfl ?_
      exact ih x1 x2 x3 x4 x5 x6 (x7 + (1 : Int32)) (rs M 1374 0 (nx x7) (0 : Int32)) h
def m12_settles (x1 : Int32) (x2 : Int32) (x3 : Int32) (x4 : Int32) (x5 : Int32) (x6 : Int32) (M : rM) : Option (Int32 × rM) := m12_settles_3 zfu x1 x2 x3 x4 x5 x6 (0 : Int32) M
theorem m12_settles_ok {X : zX} {G : zG} (Hy : zHy X G q12_settles zcR 2 54 (some .boolean)) {r : Int32} {M' : rM} (hE : zEnd X G (some (.inl r)) (zfR M')) (x1 : Int32) (x2 : Int32) (x3 : Int32) (x4 : Int32) (x5 : Int32) (x6 : Int32) (M : rM) (h : m12_settles x1 x2 x3 x4 x5 x6 M = some (r, M')) : zGo (X, q12_settles, G) 0 0 (0, [(0, .inr (.inr (some (12, 0)))), (1, .inl x1), (2, .inl x2), (3, .inl x3), (4, .inl x4), (5, .inl x5), (6, .inl x6)], [], zfR M) := by
  unfold m12_settles at h
  refine zblq Hy.1 Hy.2.1 [(.iconst 0, 1), (.istore 7, 2)] (S' := (3, [(0, .inr (.inr (some (12, 0)))), (1, .inl x1), (2, .inl x2), (3, .inl x3), (4, .inl x4), (5, .inl x5), (6, .inl x6), (7, .inl (0 : Int32))], [], zfR M)) (b := true) (by decide +kernel) rfl rfl ?_
  refine zGo_keep [0, 1, 2, 3, 4, 5, 6, 7] rfl ?_
  exact m12_settles_3_ok Hy hE zfu x1 x2 x3 x4 x5 x6 (0 : Int32) M h
theorem m12_settles_met {l : Launch} {G : zG} (hG : zGok G) (hcn : zgcn G = zcR) {x1 : Int32} {x2 : Int32} {x3 : Int32} {x4 : Int32} {x5 : Int32} {x6 : Int32} {M : rM} {r : Int32} {M' : rM} (h : m12_settles x1 x2 x3 x4 x5 x6 M = some (r, M')) : zMet l G yX12_settles cX12_settles 11 (some .boolean) 2 54 [.inr (.inr (some (12, 0))), .inl x1, .inl x2, .inl x3, .inl x4, .inl x5, .inl x6] (zfR M) (some (.inl r)) (zfR M') :=
  zMet_of hG tbX12_ok rfl (by decide +kernel) (Nat.le_of_ble_eq_true rfl) (fun X _ Z hA hE => m12_settles_ok ⟨Z, hcn, hA⟩ hE x1 x2 x3 x4 x5 x6 M h)
abbrev q12_settle : ByteArray × Nat × String × zT := (cX12_settle, 9, RX12, tbX12)
def m12_settle_92 (k36 : Int32 → Int32 → Int32 → Int32 → Int32 → Int32 → Int32 → rM → Option (Int32 × rM)) (x1 : Int32) (x2 : Int32) (x3 : Int32) (x4 : Int32) (x5 : Int32) (x7 : Int32) (x8 : Int32) (M : rM) : Option (Int32 × rM) := k36 x1 x2 x3 x4 x5 x7 (x8 + (1 : Int32)) M
theorem m12_settle_92_ok {X : zX} {G : zG} (Hy : zHy X G q12_settle zcR 3 84 (some .int)) {r : Int32} {M' : rM} (hE : zEnd X G (some (.inl r)) (zfR M')) {k36 : Int32 → Int32 → Int32 → Int32 → Int32 → Int32 → Int32 → rM → Option (Int32 × rM)} (hk36 : ∀ (x1 : Int32) (x2 : Int32) (x3 : Int32) (x4 : Int32) (x5 : Int32) (x7 : Int32) (x8 : Int32) (M : rM), k36 x1 x2 x3 x4 x5 x7 x8 M = some (r, M') → zGo (X, q12_settle, G) 0 0 (36, [(0, .inr (.inr (some (12, 0)))), (1, .inl x1), (2, .inl x2), (3, .inl x3), (4, .inl x4), (5, .inl x5), (7, .inl x7), (8, .inl x8)], [], zfR M)) (x1 : Int32) (x2 : Int32) (x3 : Int32) (x4 : Int32) (x5 : Int32) (x7 : Int32) (x8 : Int32) (M : rM) (h : m12_settle_92 k36 x1 x2 x3 x4 x5 x7 x8 M = some (r, M')) : zGo (X, q12_settle, G) 0 0 (92, [(0, .inr (.inr (some (12, 0)))), (1, .inl x1), (2, .inl x2), (3, .inl x3), (4, .inl x4), (5, .inl x5), (7, .inl x7), (8, .inl x8)], [], zfR M) := by
  unfold m12_settle_92 at h
  refine zblq Hy.1 Hy.2.1 [(.iinc 8 1, 3), (.ldc 36, 3)] (S' := (36, [(0, .inr (.inr (some (12, 0)))), (1, .inl x1), (2, .inl x2), (3, .inl x3), (4, .inl x4), (5, .inl x5), (7, .inl x7), (8, .inl (x8 + (1 : Int32)))], [], zfR M)) (b := true) (by decide +kernel) rfl rfl ?_
  refine zGo_keep [0, 1, 2, 3, 4, 5, 7, 8] rfl ?_
  exact hk36 x1 x2 x3 x4 x5 x7 (x8 + (1 : Int32)) M h
def m12_settle_72 (k36 : Int32 → Int32 → Int32 → Int32 → Int32 → Int32 → Int32 → rM → Option (Int32 × rM)) (x1 : Int32) (x2 : Int32) (x3 : Int32) (x4 : Int32) (x5 : Int32) (x7 : Int32) (x8 : Int32) (M : rM) : Option (Int32 × rM) := zbd (m12_settles x8 x1 x2 x3 x4 x5 M) (fun r3 M3 => (if r3 = 0 then m12_settle_92 k36 x1 x2 x3 x4 x5 x7 x8 M3 else m12_settle_92 k36 x1 x2 x3 x4 x5 x8 x8 M3))
theorem m12_settle_72_ok {X : zX} {G : zG} (Hy : zHy X G q12_settle zcR 3 84 (some .int)) {r : Int32} {M' : rM} (hE : zEnd X G (some (.inl r)) (zfR M')) {k36 : Int32 → Int32 → Int32 → Int32 → Int32 → Int32 → Int32 → rM → Option (Int32 × rM)} (hk36 : ∀ (x1 : Int32) (x2 : Int32) (x3 : Int32) (x4 : Int32) (x5 : Int32) (x7 : Int32) (x8 : Int32) (M : rM), k36 x1 x2 x3 x4 x5 x7 x8 M = some (r, M') → zGo (X, q12_settle, G) 0 0 (36, [(0, .inr (.inr (some (12, 0)))), (1, .inl x1), (2, .inl x2), (3, .inl x3), (4, .inl x4), (5, .inl x5), (7, .inl x7), (8, .inl x8)], [], zfR M)) (x1 : Int32) (x2 : Int32) (x3 : Int32) (x4 : Int32) (x5 : Int32) (x7 : Int32) (x8 : Int32) (M : rM) (h : m12_settle_72 k36 x1 x2 x3 x4 x5 x7 x8 M = some (r, M')) : zGo (X, q12_settle, G) 0 0 (72, [(0, .inr (.inr (some (12, 0)))), (1, .inl x1), (2, .inl x2), (3, .inl x3), (4, .inl x4), (5, .inl x5), (7, .inl x7), (8, .inl x8)], [], zfR M) := by
  unfold m12_settle_72 at h
  refine zblq Hy.1 Hy.2.1 [(.aload 0, 1), (.iload 8, 2), (.iload 1, 1), (.iload 2, 1), (.iload 3, 1), (.iload 4, 2), (.iload 5, 2)] (S' := (82, [(0, .inr (.inr (some (12, 0)))), (1, .inl x1), (2, .inl x2), (3, .inl x3), (4, .inl x4), (5, .inl x5), (7, .inl x7), (8, .inl x8)], [.inl x5, .inl x4, .inl x3, .inl x2, .inl x1, .inl x8, .inr (.inr (some (12, 0)))], zfR M)) (b := true) (by decide +kernel) rfl rfl ?_
  obtain ⟨r3, M3, hc3, h⟩ := zbd_inv h
  refine zcallV Hy.1 (as := [.inl x8, .inl x1, .inl x2, .inl x3, .inl x4, .inl x5]) (st := []) (m12_settles_met (zOK_G Hy.1) Hy.2.1 hc3) cw12_449 m12_settles_in m12_settles_se (by decide) (zhlv Hy.2.1 rfl) rfl (zroom Hy.2.2 ⟨by decide, by decide⟩) rfl (by decide +kernel) ⟨Nat.zero_le _, Nat.zero_le _⟩ ?_
  refine zif_eq Hy.1 (off := 7) (tgt := 92) (by decide +kernel) (by decide) (fun hb4 => ?_) (fun hb4 => ?_)
  · replace h := zite_t h hb4
    refine zGo_keep [0, 1, 2, 3, 4, 5, 7, 8] rfl ?_
    exact m12_settle_92_ok Hy hE hk36 x1 x2 x3 x4 x5 x7 x8 M3 h
  · replace h := zite_f h hb4
    refine zblq Hy.1 Hy.2.1 [(.iload 8, 2), (.istore 7, 2)] (S' := (92, [(0, .inr (.inr (some (12, 0)))), (1, .inl x1), (2, .inl x2), (3, .inl x3), (4, .inl x4), (5, .inl x5), (7, .inl x8), (8, .inl x8)], [], zfR M3)) (b := true) (by decide +kernel) rfl rfl ?_
    refine zGo_keep [0, 1, 2, 3, 4, 5, 7, 8] rfl ?_
    exact m12_settle_92_ok Hy hE hk36 x1 x2 x3 x4 x5 x8 x8 M3 h
def m12_settle_36 : Nat → Int32 → Int32 → Int32 → Int32 → Int32 → Int32 → Int32 → rM → Option (Int32 × rM)
  | 0, _, _, _, _, _, _, _, _ => none
  | n + 1, x1, x2, x3, x4, x5, x7, x8, M => (if (64 : Int32) ≤ x8 then some (x7, M) else (if (x8 &&& (rg M 12 0 71)) = 0 then (if x7 = (-1 : Int32) then m12_settle_72 (m12_settle_36 n) x1 x2 x3 x4 x5 x7 x8 M else zbd (m12_bits x8 M) (fun r5 M5 => zbd (m12_bits x7 M5) (fun r6 M6 => (if r6 ≤ r5 then m12_settle_92 (m12_settle_36 n) x1 x2 x3 x4 x5 x7 x8 M6 else m12_settle_72 (m12_settle_36 n) x1 x2 x3 x4 x5 x7 x8 M6)))) else m12_settle_92 (m12_settle_36 n) x1 x2 x3 x4 x5 x7 x8 M))
theorem m12_settle_36_ok {X : zX} {G : zG} (Hy : zHy X G q12_settle zcR 3 84 (some .int)) {r : Int32} {M' : rM} (hE : zEnd X G (some (.inl r)) (zfR M')) : ∀ (n : Nat) (x1 : Int32) (x2 : Int32) (x3 : Int32) (x4 : Int32) (x5 : Int32) (x7 : Int32) (x8 : Int32) (M : rM), m12_settle_36 n x1 x2 x3 x4 x5 x7 x8 M = some (r, M') → zGo (X, q12_settle, G) 0 0 (36, [(0, .inr (.inr (some (12, 0)))), (1, .inl x1), (2, .inl x2), (3, .inl x3), (4, .inl x4), (5, .inl x5), (7, .inl x7), (8, .inl x8)], [], zfR M) := by
  intro n
  induction n with
  | zero => intro x1 x2 x3 x4 x5 x7 x8 M h; cases h
  | succ n ih =>
    intro x1 x2 x3 x4 x5 x7 x8 M h
    unfold m12_settle_36 at h
    refine zblq Hy.1 Hy.2.1 [(.iload 8, 2), (.iconst 64, 2)] (S' := (40, [(0, .inr (.inr (some (12, 0)))), (1, .inl x1), (2, .inl x2), (3, .inl x3), (4, .inl x4), (5, .inl x5), (7, .inl x7), (8, .inl x8)], [.inl (64 : Int32), .inl x8], zfR M)) (b := true) (by decide +kernel) rfl rfl ?_
    refine zic_ge Hy.1 (off := 58) (tgt := 98) (by decide +kernel) (by decide) (fun hb10 => ?_) (fun hb10 => ?_)
    · replace h := zite_t h hb10
      refine zblq Hy.1 Hy.2.1 [(.iload 7, 2)] (S' := (100, [(0, .inr (.inr (some (12, 0)))), (1, .inl x1), (2, .inl x2), (3, .inl x3), (4, .inl x4), (5, .inl x5), (7, .inl x7), (8, .inl x8)], [.inl x7], zfR M)) (b := true) (by decide +kernel) rfl rfl ?_
      cases h
      exact zret_i Hy.1 Hy.2.2 hE (by decide +kernel)
    · replace h := zite_f h hb10
      refine zblq Hy.1 Hy.2.1 [(.iload 8, 2), (.aload 0, 1), (.multianewarray 12 71, 3), (.iand, 1)] (S' := (50, [(0, .inr (.inr (some (12, 0)))), (1, .inl x1), (2, .inl x2), (3, .inl x3), (4, .inl x4), (5, .inl x5), (7, .inl x7), (8, .inl x8)], [.inl (x8 &&& (rg M 12 0 71))], zfR M)) (b := true) (by decide +kernel) rfl rfl ?_
      refine zif_ne Hy.1 (off := 42) (tgt := 92) (by decide +kernel) (by decide) (fun hb9 => ?_) (fun hb9 => ?_)
      · replace h := zite_f h hb9
        refine zGo_keep [0, 1, 2, 3, 4, 5, 7, 8] rfl ?_
        exact m12_settle_92_ok Hy hE ih x1 x2 x3 x4 x5 x7 x8 M h
      · replace h := zite_t h hb9
        refine zblq Hy.1 Hy.2.1 [(.iload 7, 2), (.iconst (-1), 1)] (S' := (56, [(0, .inr (.inr (some (12, 0)))), (1, .inl x1), (2, .inl x2), (3, .inl x3), (4, .inl x4), (5, .inl x5), (7, .inl x7), (8, .inl x8)], [.inl (-1 : Int32), .inl x7], zfR M)) (b := true) (by decide +kernel) rfl rfl ?_
        refine zic_eq Hy.1 (off := 16) (tgt := 72) (by decide +kernel) (by decide) (fun hb8 => ?_) (fun hb8 => ?_)
        · replace h := zite_t h hb8
          refine zGo_keep [0, 1, 2, 3, 4, 5, 7, 8] rfl ?_
          exact m12_settle_72_ok Hy hE ih x1 x2 x3 x4 x5 x7 x8 M h
        · replace h := zite_f h hb8
          refine zblq Hy.1 Hy.2.1 [(.iload 8, 2)] (S' := (61, [(0, .inr (.inr (some (12, 0)))), (1, .inl x1), (2, .inl x2), (3, .inl x3), (4, .inl x4), (5, .inl x5), (7, .inl x7), (8, .inl x8)], [.inl x8], zfR M)) (b := true) (by decide +kernel) rfl rfl ?_
          obtain ⟨r5, M5, hc5, h⟩ := zbd_inv h
          refine zcallS Hy.1 (as := [.inl x8]) (st := []) (m12_bits_met (zOK_G Hy.1) Hy.2.1 hc5) cw12_390 m12_bits_in rfl (zroom Hy.2.2 ⟨by decide, by decide⟩) rfl (by decide +kernel) ⟨Nat.zero_le _, Nat.zero_le _⟩ ?_
          refine zblq Hy.1 Hy.2.1 [(.iload 7, 2)] (S' := (66, [(0, .inr (.inr (some (12, 0)))), (1, .inl x1), (2, .inl x2), (3, .inl x3), (4, .inl x4), (5, .inl x5), (7, .inl x7), (8, .inl x8)], [.inl x7, .inl r5], zfR M5)) (b := true) (by decide +kernel) rfl rfl ?_
          obtain ⟨r6, M6, hc6, h⟩ := zbd_inv h
          refine zcallS Hy.1 (as := [.inl x7]) (st := [.inl r5]) (m12_bits_met (zOK_G Hy.1) Hy.2.1 hc6) cw12_390 m12_bits_in rfl (zroom Hy.2.2 ⟨by decide, by decide⟩) rfl (by decide +kernel) ⟨Nat.zero_le _, Nat.zero_le _⟩ ?_
          refine zic_ge Hy.1 (off := 23) (tgt := 92) (by decide +kernel) (by decide) (fun hb7 => ?_) (fun hb7 => ?_)
          · replace h := zite_t h hb7
            refine zGo_keep [0, 1, 2, 3, 4, 5, 7, 8] rfl ?_
            exact m12_settle_92_ok Hy hE ih x1 x2 x3 x4 x5 x7 x8 M6 h
          · replace h := zite_f h hb7
            refine zGo_keep [0, 1, 2, 3, 4, 5, 7, 8] rfl ?_
            exact m12_settle_72_ok Hy hE ih x1 x2 x3 x4 x5 x7 x8 M6 h
def m12_settle (x1 : Int32) (x2 : Int32) (x3 : Int32) (x4 : Int32) (x5 : Int32) (M : rM) : Option (Int32 × rM) := zbd (m12_wrongClaim x1 x2 x3 x4 x5 M) (fun r1 M1 => (if r1 = (1 : Int32) then zbv (m12_findCourses (rg M1 12 0 71) M1) (fun M2 => m12_settle_36 zfu x1 x2 x3 x4 x5 (-1 : Int32) (0 : Int32) M2) else some (r1, M1)))
theorem m12_settle_ok {X : zX} {G : zG} (Hy : zHy X G q12_settle zcR 3 84 (some .int)) {r : Int32} {M' : rM} (hE : zEnd X G (some (.inl r)) (zfR M')) (x1 : Int32) (x2 : Int32) (x3 : Int32) (x4 : Int32) (x5 : Int32) (M : rM) (h : m12_settle x1 x2 x3 x4 x5 M = some (r, M')) : zGo (X, q12_settle, G) 0 0 (0, [(0, .inr (.inr (some (12, 0)))), (1, .inl x1), (2, .inl x2), (3, .inl x3), (4, .inl x4), (5, .inl x5)], [], zfR M) := by
  unfold m12_settle at h
  refine zblq Hy.1 Hy.2.1 [(.aload 0, 1), (.iload 1, 1), (.iload 2, 1), (.iload 3, 1), (.iload 4, 2), (.iload 5, 2)] (S' := (8, [(0, .inr (.inr (some (12, 0)))), (1, .inl x1), (2, .inl x2), (3, .inl x3), (4, .inl x4), (5, .inl x5)], [.inl x5, .inl x4, .inl x3, .inl x2, .inl x1, .inr (.inr (some (12, 0)))], zfR M)) (b := true) (by decide +kernel) rfl rfl ?_
  obtain ⟨r1, M1, hc1, h⟩ := zbd_inv h
  refine zcallV Hy.1 (as := [.inl x1, .inl x2, .inl x3, .inl x4, .inl x5]) (st := []) (m12_wrongClaim_met (zOK_G Hy.1) Hy.2.1 hc1) cw12_437 m12_wrongClaim_in m12_wrongClaim_se (by decide) (zhlv Hy.2.1 rfl) rfl (zroom Hy.2.2 ⟨by decide, by decide⟩) rfl (by decide +kernel) ⟨Nat.zero_le _, Nat.zero_le _⟩ ?_
  refine zblq Hy.1 Hy.2.1 [(.istore 6, 2), (.iload 6, 2), (.iconst 1, 1)] (S' := (16, [(0, .inr (.inr (some (12, 0)))), (1, .inl x1), (2, .inl x2), (3, .inl x3), (4, .inl x4), (5, .inl x5), (6, .inl r1)], [.inl (1 : Int32), .inl r1], zfR M1)) (b := true) (by decide +kernel) rfl rfl ?_
  refine zic_eq Hy.1 (off := 6) (tgt := 22) (by decide +kernel) (by decide) (fun hb11 => ?_) (fun hb11 => ?_)
  · replace h := zite_t h hb11
    refine zblq Hy.1 Hy.2.1 [(.aload 0, 1), (.aload 0, 1), (.multianewarray 12 71, 3)] (S' := (27, [(0, .inr (.inr (some (12, 0)))), (1, .inl x1), (2, .inl x2), (3, .inl x3), (4, .inl x4), (5, .inl x5), (6, .inl r1)], [.inl (rg M1 12 0 71), .inr (.inr (some (12, 0)))], zfR M1)) (b := true) (by decide +kernel) rfl rfl ?_
    obtain ⟨M2, hc2, h⟩ := zbv_inv h
    refine zcallV Hy.1 (as := [.inl (rg M1 12 0 71)]) (st := []) (m12_findCourses_met (zOK_G Hy.1) Hy.2.1 hc2) cw12_434 m12_findCourses_in m12_findCourses_se (by decide) (zhlv Hy.2.1 rfl) rfl (zroom Hy.2.2 ⟨by decide, by decide⟩) rfl (by decide +kernel) ⟨Nat.zero_le _, Nat.zero_le _⟩ ?_
    refine zblq Hy.1 Hy.2.1 [(.iconst (-1), 1), (.istore 7, 2), (.iconst 0, 1), (.istore 8, 2)] (S' := (36, [(0, .inr (.inr (some (12, 0)))), (1, .inl x1), (2, .inl x2), (3, .inl x3), (4, .inl x4), (5, .inl x5), (6, .inl r1), (7, .inl (-1 : Int32)), (8, .inl (0 : Int32))], [], zfR M2)) (b := true) (by decide +kernel) rfl rfl ?_
    refine zGo_keep [0, 1, 2, 3, 4, 5, 7, 8] rfl ?_
    exact m12_settle_36_ok Hy hE zfu x1 x2 x3 x4 x5 (-1 : Int32) (0 : Int32) M2 h
  · replace h := zite_f h hb11
    refine zblq Hy.1 Hy.2.1 [(.iload 6, 2)] (S' := (21, [(0, .inr (.inr (some (12, 0)))), (1, .inl x1), (2, .inl x2), (3, .inl x3), (4, .inl x4), (5, .inl x5), (6, .inl r1)], [.inl r1], zfR M1)) (b := true) (by decide +kernel) rfl rfl ?_
    cases h
    exact zret_i Hy.1 Hy.2.2 hE (by decide +kernel)
theorem m12_settle_met {l : Launch} {G : zG} (hG : zGok G) (hcn : zgcn G = zcR) {x1 : Int32} {x2 : Int32} {x3 : Int32} {x4 : Int32} {x5 : Int32} {M : rM} {r : Int32} {M' : rM} (h : m12_settle x1 x2 x3 x4 x5 M = some (r, M')) : zMet l G yX12_settle cX12_settle 9 (some .int) 3 84 [.inr (.inr (some (12, 0))), .inl x1, .inl x2, .inl x3, .inl x4, .inl x5] (zfR M) (some (.inl r)) (zfR M') :=
  zMet_of hG tbX12_ok rfl (by decide +kernel) (Nat.le_of_ble_eq_true rfl) (fun X _ Z hA hE => m12_settle_ok ⟨Z, hcn, hA⟩ hE x1 x2 x3 x4 x5 M h)
abbrev q12_count : ByteArray × Nat × String × zT := (cX12_count, 4, RX12, tbX12)
def m12_count_74 (k51 : Int32 → Int32 → rM → Option (Int32 × rM)) (x3 : Int32) (t0 : Int32) (t1 : Int32) (M : rM) : Option (Int32 × rM) := k51 (t0 + t1) (x3 + (1 : Int32)) M
theorem m12_count_74_ok {X : zX} {G : zG} (Hy : zHy X G q12_count zcR 0 0 (some .int)) {r : Int32} {M' : rM} (hE : zEnd X G (some (.inl r)) (zfR M')) {k51 : Int32 → Int32 → rM → Option (Int32 × rM)} (hk51 : ∀ (x2 : Int32) (x3 : Int32) (M : rM), k51 x2 x3 M = some (r, M') → zGo (X, q12_count, G) 0 0 (51, [(0, .inr (.inr (some (12, 0)))), (2, .inl x2), (3, .inl x3)], [], zfR M)) (x3 : Int32) (t0 : Int32) (t1 : Int32) (M : rM) (h : m12_count_74 k51 x3 t0 t1 M = some (r, M')) : zGo (X, q12_count, G) 0 0 (74, [(0, .inr (.inr (some (12, 0)))), (3, .inl x3)], [.inl t1, .inl t0], zfR M) := by
  unfold m12_count_74 at h
  refine zblq Hy.1 Hy.2.1 [(.iadd, 1), (.istore 2, 1), (.iinc 3 1, 3), (.ldc 51, 3)] (S' := (51, [(0, .inr (.inr (some (12, 0)))), (2, .inl (t0 + t1)), (3, .inl (x3 + (1 : Int32)))], [], zfR M)) (b := true) (by decide +kernel) rfl rfl ?_
  refine zGo_keep [0, 2, 3] rfl ?_
  exact hk51 (t0 + t1) (x3 + (1 : Int32)) M h
def m12_count_51 : Nat → Int32 → Int32 → rM → Option (Int32 × rM)
  | 0, _, _, _ => none
  | n + 1, x2, x3, M => (if (rg M 12 0 0) ≤ x3 then some (x2, M) else zgd (zin x3 10 && true) ((if (rg M 1302 0 (nx x3)) ≤ 0 then m12_count_74 (m12_count_51 n) x3 x2 (0 : Int32) M else m12_count_74 (m12_count_51 n) x3 x2 (1 : Int32) M)))
theorem m12_count_51_ok {X : zX} {G : zG} (Hy : zHy X G q12_count zcR 0 0 (some .int)) {r : Int32} {M' : rM} (hE : zEnd X G (some (.inl r)) (zfR M')) : ∀ (n : Nat) (x2 : Int32) (x3 : Int32) (M : rM), m12_count_51 n x2 x3 M = some (r, M') → zGo (X, q12_count, G) 0 0 (51, [(0, .inr (.inr (some (12, 0)))), (2, .inl x2), (3, .inl x3)], [], zfR M) := by
  intro n
  induction n with
  | zero => intro x2 x3 M h; cases h
  | succ n ih =>
    intro x2 x3 M h
    unfold m12_count_51 at h
    refine zblq Hy.1 Hy.2.1 [(.iload 3, 1), (.aload 0, 1), (.multianewarray 12 0, 3)] (S' := (56, [(0, .inr (.inr (some (12, 0)))), (2, .inl x2), (3, .inl x3)], [.inl (rg M 12 0 0), .inl x3], zfR M)) (b := true) (by decide +kernel) rfl rfl ?_
    refine zic_ge Hy.1 (off := 26) (tgt := 82) (by decide +kernel) (by decide) (fun hb4 => ?_) (fun hb4 => ?_)
    · replace h := zite_t h hb4
      refine zblq Hy.1 Hy.2.1 [(.iload 2, 1)] (S' := (83, [(0, .inr (.inr (some (12, 0)))), (2, .inl x2), (3, .inl x3)], [.inl x2], zfR M)) (b := true) (by decide +kernel) rfl rfl ?_
      cases h
      exact zret_i Hy.1 Hy.2.2 hE (by decide +kernel)
    · replace h := zite_f h hb4
      obtain ⟨hg2, h⟩ := zgd_inv h
      refine zblq Hy.1 Hy.2.1 [(.iload 2, 1), (.aload 0, 1), (.getfield 1202, 3), (.iload 3, 1), (.iaload, 1)] (S' := (66, [(0, .inr (.inr (some (12, 0)))), (2, .inl x2), (3, .inl x3)], [.inl (rg M 1302 0 (nx x3)), .inl x2], zfR M)) (b := zin x3 10 && true) (by decide +kernel) rfl hg2 ?_
      refine zif_le Hy.1 (off := 7) (tgt := 73) (by decide +kernel) (by decide) (fun hb3 => ?_) (fun hb3 => ?_)
      · replace h := zite_t h hb3
        refine zblq Hy.1 Hy.2.1 [(.iconst 0, 1)] (S' := (74, [(0, .inr (.inr (some (12, 0)))), (2, .inl x2), (3, .inl x3)], [.inl (0 : Int32), .inl x2], zfR M)) (b := true) (by decide +kernel) rfl rfl ?_
        refine zGo_keep [0, 3] rfl ?_
        exact m12_count_74_ok Hy hE ih x3 x2 (0 : Int32) M h
      · replace h := zite_f h hb3
        refine zblq Hy.1 Hy.2.1 [(.iconst 1, 1), (.ldc 74, 3)] (S' := (74, [(0, .inr (.inr (some (12, 0)))), (2, .inl x2), (3, .inl x3)], [.inl (1 : Int32), .inl x2], zfR M)) (b := true) (by decide +kernel) rfl rfl ?_
        refine zGo_keep [0, 3] rfl ?_
        exact m12_count_74_ok Hy hE ih x3 x2 (1 : Int32) M h
def m12_count (x1 : Int32) (M : rM) : Option (Int32 × rM) := (if x1 = 0 then some (rg M 12 0 0, M) else (if x1 = 1 then m12_count_51 zfu (0 : Int32) (0 : Int32) M else (if x1 = 2 then some (rg M 12 0 13, M) else (if x1 = 3 then some (rg M 12 0 28, M) else (if x1 = 4 then some (rg M 12 0 51, M) else (if x1 = 5 then some (rg M 12 0 59, M) else (if x1 = 6 then some (rg M 12 0 67, M) else (some ((-3 : Int32), M)))))))))
theorem m12_count_ok {X : zX} {G : zG} (Hy : zHy X G q12_count zcR 0 0 (some .int)) {r : Int32} {M' : rM} (hE : zEnd X G (some (.inl r)) (zfR M')) (x1 : Int32) (M : rM) (h : m12_count x1 M = some (r, M')) : zGo (X, q12_count, G) 0 0 (0, [(0, .inr (.inr (some (12, 0)))), (1, .inl x1)], [], zfR M) := by
  unfold m12_count at h
  refine zblq Hy.1 Hy.2.1 [(.iconst 0, 1), (.istore 2, 1), (.iload 1, 1)] (S' := (3, [(0, .inr (.inr (some (12, 0)))), (1, .inl x1), (2, .inl (0 : Int32))], [.inl x1], zfR M)) (b := true) (by decide +kernel) rfl rfl ?_
  have hd1 : decode cX12_count 3 = .ok (.tableswitch 106 0 6 #[41, 46, 81, 86, 91, 96, 101], 41) := by decide +kernel
  by_cases hs1_0 : x1 = (0 : Int32)
  · replace h := zite_t h hs1_0
    refine zsw_in Hy.1 (v := 0) (tgt := 44) (off := 41) hs1_0 hd1 (by decide +kernel) (by decide) ?_
    refine zblq Hy.1 Hy.2.1 [(.aload 0, 1), (.multianewarray 12 0, 3)] (S' := (48, [(0, .inr (.inr (some (12, 0)))), (1, .inl x1), (2, .inl (0 : Int32))], [.inl (rg M 12 0 0)], zfR M)) (b := true) (by decide +kernel) rfl rfl ?_
    cases h
    exact zret_i Hy.1 Hy.2.2 hE (by decide +kernel)
  replace h := zite_f h hs1_0
  by_cases hs1_1 : x1 = (1 : Int32)
  · replace h := zite_t h hs1_1
    refine zsw_in Hy.1 (v := 1) (tgt := 49) (off := 46) hs1_1 hd1 (by decide +kernel) (by decide) ?_
    refine zblq Hy.1 Hy.2.1 [(.iconst 0, 1), (.istore 3, 1)] (S' := (51, [(0, .inr (.inr (some (12, 0)))), (1, .inl x1), (2, .inl (0 : Int32)), (3, .inl (0 : Int32))], [], zfR M)) (b := true) (by decide +kernel) rfl rfl ?_
    refine zGo_keep [0, 2, 3] rfl ?_
    exact m12_count_51_ok Hy hE zfu (0 : Int32) (0 : Int32) M h
  replace h := zite_f h hs1_1
  by_cases hs1_2 : x1 = (2 : Int32)
  · replace h := zite_t h hs1_2
    refine zsw_in Hy.1 (v := 2) (tgt := 84) (off := 81) hs1_2 hd1 (by decide +kernel) (by decide) ?_
    refine zblq Hy.1 Hy.2.1 [(.aload 0, 1), (.multianewarray 12 13, 3)] (S' := (88, [(0, .inr (.inr (some (12, 0)))), (1, .inl x1), (2, .inl (0 : Int32))], [.inl (rg M 12 0 13)], zfR M)) (b := true) (by decide +kernel) rfl rfl ?_
    cases h
    exact zret_i Hy.1 Hy.2.2 hE (by decide +kernel)
  replace h := zite_f h hs1_2
  by_cases hs1_3 : x1 = (3 : Int32)
  · replace h := zite_t h hs1_3
    refine zsw_in Hy.1 (v := 3) (tgt := 89) (off := 86) hs1_3 hd1 (by decide +kernel) (by decide) ?_
    refine zblq Hy.1 Hy.2.1 [(.aload 0, 1), (.multianewarray 12 28, 3)] (S' := (93, [(0, .inr (.inr (some (12, 0)))), (1, .inl x1), (2, .inl (0 : Int32))], [.inl (rg M 12 0 28)], zfR M)) (b := true) (by decide +kernel) rfl rfl ?_
    cases h
    exact zret_i Hy.1 Hy.2.2 hE (by decide +kernel)
  replace h := zite_f h hs1_3
  by_cases hs1_4 : x1 = (4 : Int32)
  · replace h := zite_t h hs1_4
    refine zsw_in Hy.1 (v := 4) (tgt := 94) (off := 91) hs1_4 hd1 (by decide +kernel) (by decide) ?_
    refine zblq Hy.1 Hy.2.1 [(.aload 0, 1), (.multianewarray 12 51, 3)] (S' := (98, [(0, .inr (.inr (some (12, 0)))), (1, .inl x1), (2, .inl (0 : Int32))], [.inl (rg M 12 0 51)], zfR M)) (b := true) (by decide +kernel) rfl rfl ?_
    cases h
    exact zret_i Hy.1 Hy.2.2 hE (by decide +kernel)
  replace h := zite_f h hs1_4
  by_cases hs1_5 : x1 = (5 : Int32)
  · replace h := zite_t h hs1_5
    refine zsw_in Hy.1 (v := 5) (tgt := 99) (off := 96) hs1_5 hd1 (by decide +kernel) (by decide) ?_
    refine zblq Hy.1 Hy.2.1 [(.aload 0, 1), (.multianewarray 12 59, 3)] (S' := (103, [(0, .inr (.inr (some (12, 0)))), (1, .inl x1), (2, .inl (0 : Int32))], [.inl (rg M 12 0 59)], zfR M)) (b := true) (by decide +kernel) rfl rfl ?_
    cases h
    exact zret_i Hy.1 Hy.2.2 hE (by decide +kernel)
  replace h := zite_f h hs1_5
  by_cases hs1_6 : x1 = (6 : Int32)
  · replace h := zite_t h hs1_6
    refine zsw_in Hy.1 (v := 6) (tgt := 104) (off := 101) hs1_6 hd1 (by decide +kernel) (by decide) ?_
    refine zblq Hy.1 Hy.2.1 [(.aload 0, 1), (.multianewarray 12 67, 3)] (S' := (108, [(0, .inr (.inr (some (12, 0)))), (1, .inl x1), (2, .inl (0 : Int32))], [.inl (rg M 12 0 67)], zfR M)) (b := true) (by decide +kernel) rfl rfl ?_
    cases h
    exact zret_i Hy.1 Hy.2.2 hE (by decide +kernel)
  replace h := zite_f h hs1_6
  refine zsw_out Hy.1 hd1 (zsw_far 7 (by decide) (fun j hj => match j, hj with | 0, _ => hs1_0 | 1, _ => hs1_1 | 2, _ => hs1_2 | 3, _ => hs1_3 | 4, _ => hs1_4 | 5, _ => hs1_5 | 6, _ => hs1_6)) (by decide : (3 : Int) + 106 = (109 : Int)) ?_
  refine zblq Hy.1 Hy.2.1 [(.iconst (-3), 2)] (S' := (111, [(0, .inr (.inr (some (12, 0)))), (1, .inl x1), (2, .inl (0 : Int32))], [.inl (-3 : Int32)], zfR M)) (b := true) (by decide +kernel) rfl rfl ?_
  cases h
  exact zret_i Hy.1 Hy.2.2 hE (by decide +kernel)
theorem m12_count_met {l : Launch} {G : zG} (hG : zGok G) (hcn : zgcn G = zcR) {x1 : Int32} {M : rM} {r : Int32} {M' : rM} (h : m12_count x1 M = some (r, M')) : zMet l G yX12_count cX12_count 4 (some .int) 0 0 [.inr (.inr (some (12, 0))), .inl x1] (zfR M) (some (.inl r)) (zfR M') :=
  zMet_of hG tbX12_ok rfl (by decide +kernel) (Nat.le_of_ble_eq_true rfl) (fun X _ Z hA hE => m12_count_ok ⟨Z, hcn, hA⟩ hE x1 M h)
