def mk9_0 (M : zM) : zM := M
set_option maxRecDepth 100000 in
theorem ct9_0 {l : Launch} {D : va_G} {ad : zR → Nat} {ca : Nat → ClassId} {A : Nat → Prop} {base : Nat} (hW : zWh zUC base ad A) (M : zM) : zMetC l yX9_init cX9_init 1 1 0 0 12 [.inr (.inr (some (9, 0)))] (base + 9) (zGt zUC D ad ca A 9) M (zGt zUC D ad ca A 9) (mk9_0 M) := by
  refine zMetC_of (zGt_ok hW _) rfl tbK9_ok rfl rfl (by decide +kernel) (Nat.le_of_ble_eq_true rfl) (fun X _ Z hA hE => ?_)
  obtain ⟨p, l', e, R, s, m, args, below, meth, c, Q⟩ := X
  obtain ⟨hR, -, hin, hs, ho1, ho2⟩ := id hA
  subst hR
  refine zblq Z rfl [(.aload 0, 1)] (S' := (1, [(0, .inr (.inr (some (9, 0))))], [.inr (.inr (some (9, 0)))], _)) (b := true) (by decide +kernel) rfl rfl ?_
  refine z_obj Z ol9_1 ol_in ol_cd ⟨by exact Nat.le_of_ble_eq_true rfl, by exact Nat.le_of_ble_eq_true rfl⟩ (by decide +kernel) ?_
  exact zret_c Z hA hE (by decide +kernel)
def mk9_10 (M : zM) : zM := M
set_option maxRecDepth 100000 in
theorem ct9_10 {l : Launch} {D : va_G} {ad : zR → Nat} {ca : Nat → ClassId} {A : Nat → Prop} {base : Nat} (hW : zWh zUC base ad A) (M : zM) : zMetC l yX9_init cX9_init 1 1 0 0 12 [.inr (.inr (some (9, 10)))] (base + 13) (zGt zUC D ad ca A 13) M (zGt zUC D ad ca A 13) (mk9_10 M) := by
  refine zMetC_of (zGt_ok hW _) rfl tbK9_ok rfl rfl (by decide +kernel) (Nat.le_of_ble_eq_true rfl) (fun X _ Z hA hE => ?_)
  obtain ⟨p, l', e, R, s, m, args, below, meth, c, Q⟩ := X
  obtain ⟨hR, -, hin, hs, ho1, ho2⟩ := id hA
  subst hR
  refine zblq Z rfl [(.aload 0, 1)] (S' := (1, [(0, .inr (.inr (some (9, 10))))], [.inr (.inr (some (9, 10)))], _)) (b := true) (by decide +kernel) rfl rfl ?_
  refine z_obj Z ol9_1 ol_in ol_cd ⟨by exact Nat.le_of_ble_eq_true rfl, by exact Nat.le_of_ble_eq_true rfl⟩ (by decide +kernel) ?_
  exact zret_c Z hA hE (by decide +kernel)
def mk9_11 (M : zM) : zM := M
set_option maxRecDepth 100000 in
theorem ct9_11 {l : Launch} {D : va_G} {ad : zR → Nat} {ca : Nat → ClassId} {A : Nat → Prop} {base : Nat} (hW : zWh zUC base ad A) (M : zM) : zMetC l yX9_init cX9_init 1 1 0 0 12 [.inr (.inr (some (9, 11)))] (base + 14) (zGt zUC D ad ca A 14) M (zGt zUC D ad ca A 14) (mk9_11 M) := by
  refine zMetC_of (zGt_ok hW _) rfl tbK9_ok rfl rfl (by decide +kernel) (Nat.le_of_ble_eq_true rfl) (fun X _ Z hA hE => ?_)
  obtain ⟨p, l', e, R, s, m, args, below, meth, c, Q⟩ := X
  obtain ⟨hR, -, hin, hs, ho1, ho2⟩ := id hA
  subst hR
  refine zblq Z rfl [(.aload 0, 1)] (S' := (1, [(0, .inr (.inr (some (9, 11))))], [.inr (.inr (some (9, 11)))], _)) (b := true) (by decide +kernel) rfl rfl ?_
  refine z_obj Z ol9_1 ol_in ol_cd ⟨by exact Nat.le_of_ble_eq_true rfl, by exact Nat.le_of_ble_eq_true rfl⟩ (by decide +kernel) ?_
  exact zret_c Z hA hE (by decide +kernel)
def mk9_12 (M : zM) : zM := M
set_option maxRecDepth 100000 in
theorem ct9_12 {l : Launch} {D : va_G} {ad : zR → Nat} {ca : Nat → ClassId} {A : Nat → Prop} {base : Nat} (hW : zWh zUC base ad A) (M : zM) : zMetC l yX9_init cX9_init 1 1 0 0 12 [.inr (.inr (some (9, 12)))] (base + 15) (zGt zUC D ad ca A 15) M (zGt zUC D ad ca A 15) (mk9_12 M) := by
  refine zMetC_of (zGt_ok hW _) rfl tbK9_ok rfl rfl (by decide +kernel) (Nat.le_of_ble_eq_true rfl) (fun X _ Z hA hE => ?_)
  obtain ⟨p, l', e, R, s, m, args, below, meth, c, Q⟩ := X
  obtain ⟨hR, -, hin, hs, ho1, ho2⟩ := id hA
  subst hR
  refine zblq Z rfl [(.aload 0, 1)] (S' := (1, [(0, .inr (.inr (some (9, 12))))], [.inr (.inr (some (9, 12)))], _)) (b := true) (by decide +kernel) rfl rfl ?_
  refine z_obj Z ol9_1 ol_in ol_cd ⟨by exact Nat.le_of_ble_eq_true rfl, by exact Nat.le_of_ble_eq_true rfl⟩ (by decide +kernel) ?_
  exact zret_c Z hA hE (by decide +kernel)
def mk9_13 (M : zM) : zM := M
set_option maxRecDepth 100000 in
theorem ct9_13 {l : Launch} {D : va_G} {ad : zR → Nat} {ca : Nat → ClassId} {A : Nat → Prop} {base : Nat} (hW : zWh zUC base ad A) (M : zM) : zMetC l yX9_init cX9_init 1 1 0 0 12 [.inr (.inr (some (9, 13)))] (base + 16) (zGt zUC D ad ca A 16) M (zGt zUC D ad ca A 16) (mk9_13 M) := by
  refine zMetC_of (zGt_ok hW _) rfl tbK9_ok rfl rfl (by decide +kernel) (Nat.le_of_ble_eq_true rfl) (fun X _ Z hA hE => ?_)
  obtain ⟨p, l', e, R, s, m, args, below, meth, c, Q⟩ := X
  obtain ⟨hR, -, hin, hs, ho1, ho2⟩ := id hA
  subst hR
  refine zblq Z rfl [(.aload 0, 1)] (S' := (1, [(0, .inr (.inr (some (9, 13))))], [.inr (.inr (some (9, 13)))], _)) (b := true) (by decide +kernel) rfl rfl ?_
  refine z_obj Z ol9_1 ol_in ol_cd ⟨by exact Nat.le_of_ble_eq_true rfl, by exact Nat.le_of_ble_eq_true rfl⟩ (by decide +kernel) ?_
  exact zret_c Z hA hE (by decide +kernel)
def mk8_0 (M : zM) : zM := zwF (mk9_13 (zclr (zwF (mk9_12 (zclr (zwF (mk9_11 (zclr (zwF (mk9_10 (zclr (zwF (zclr (zwF (zclr M 900 0) 8 0 0 (900, 0)) 901 0) 8 0 1 (901, 0)) 9 10)) 901 0 0 (9, 10)) 9 11)) 901 0 1 (9, 11)) 9 12)) 901 0 2 (9, 12)) 9 13)) 901 0 3 (9, 13)
set_option maxRecDepth 100000 in
theorem ct8_0 {l : Launch} {D : va_G} {ad : zR → Nat} {ca : Nat → ClassId} {A : Nat → Prop} {base : Nat} (hW : zWh zUC base ad A) (M : zM) : zMetC l yX8_init cX8_init 2 2 6 28 32 [.inr (.inr (some (8, 0)))] (base + 10) (zGt zUC D ad ca A 10) M (zGt zUC D ad ca A 16) (mk8_0 M) := by
  refine zMetC_of (zGt_ok hW _) rfl tbK8_ok rfl rfl (by decide +kernel) (Nat.le_of_ble_eq_true rfl) (fun X _ Z hA hE => ?_)
  obtain ⟨p, l', e, R, s, m, args, below, meth, c, Q⟩ := X
  obtain ⟨hR, -, hin, hs, ho1, ho2⟩ := id hA
  subst hR
  refine zblq Z rfl [(.aload 0, 1)] (S' := (1, [(0, .inr (.inr (some (8, 0))))], [.inr (.inr (some (8, 0)))], _)) (b := true) (by decide +kernel) rfl rfl ?_
  refine z_obj Z ol8_1 ol_in ol_cd ⟨by exact Nat.le_of_ble_eq_true rfl, by exact Nat.le_of_ble_eq_true rfl⟩ (by decide +kernel) ?_
  refine zblq Z rfl [(.aload 0, 1), (.iconst 4, 1)] (S' := (6, [(0, .inr (.inr (some (8, 0))))], [.inl (4 : Int32), .inr (.inr (some (8, 0)))], _)) (b := true) (by decide +kernel) rfl rfl ?_
  refine c_newa (n := 0) hW hs rfl (kk := 900) (i := 0) rfl Z (Or.inl ⟨rfl, rfl⟩) rfl acl_0 (by decide) ⟨by exact Nat.le_of_ble_eq_true rfl, by exact Nat.le_of_ble_eq_true rfl⟩ (by decide +kernel) ?_
  replace Z := c_Z Z hW 11
  refine c_putR Z (idx := 9) (ss := 0) (zmU (j := 9) rfl (by decide)) (by decide) (by decide) rfl (by decide +kernel) (Or.inr ⟨rfl, hin, rfl⟩) (by decide +kernel) ?_
  refine zblq Z rfl [(.aload 0, 1), (.iconst 4, 1)] (S' := (13, [(0, .inr (.inr (some (8, 0))))], [.inl (4 : Int32), .inr (.inr (some (8, 0)))], _)) (b := true) (by decide +kernel) rfl rfl ?_
  refine c_newq (n := 1) hW hs rfl (kk := 901) (i := 0) (C0 := "EarField$Sum") rfl Z (Or.inr ⟨rfl, rfl⟩) rfl lk8_13 ho2 (by decide) ⟨by exact Nat.le_of_ble_eq_true rfl, by exact Nat.le_of_ble_eq_true rfl⟩ (by decide +kernel) ?_
  replace Z := c_Z Z hW 12
  refine c_putR Z (idx := 15) (ss := 1) (zmU (j := 9) rfl (by decide)) (by decide) (by decide) rfl (by decide +kernel) (Or.inr ⟨rfl, hin, rfl⟩) (by decide +kernel) ?_
  refine zblq Z rfl [(.iconst 0, 1), (.istore 1, 1), (.iload 1, 1), (.iconst 4, 1)] (S' := (23, [(0, .inr (.inr (some (8, 0)))), (1, .inl (0 : Int32))], [.inl (4 : Int32), .inl (0 : Int32)], _)) (b := true) (by decide +kernel) rfl rfl ?_
  refine zic_ge Z (off := 22) (tgt := 45) (by decide +kernel) (by decide) (fun h => absurd h (by decide)) (fun _ => ?_)
  refine zblq Z rfl [(.aload 0, 1)] (S' := (27, [(0, .inr (.inr (some (8, 0)))), (1, .inl (0 : Int32))], [.inr (.inr (some (8, 0)))], _)) (b := true) (by decide +kernel) rfl rfl ?_
  refine c_getR Z (idx := 15) (ss := 1) (r := (901, 0)) (zmU (j := 9) rfl (by decide)) (by decide) (by decide) rfl (by decide +kernel) rfl (by decide +kernel) ?_
  refine zblq Z rfl [(.iload 1, 1)] (S' := (31, [(0, .inr (.inr (some (8, 0)))), (1, .inl (0 : Int32))], [.inl (0 : Int32), .inr (.inr (some (901, 0)))], _)) (b := true) (by decide +kernel) rfl rfl ?_
  refine c_new (n := 2) hW hs rfl (kk := 9) (i := 10) rfl Z (by decide) lk8_13 ist_9 ini_9 ⟨by exact Nat.le_of_ble_eq_true rfl, by exact Nat.le_of_ble_eq_true rfl⟩ (by decide +kernel) ?_
  replace Z := c_Z Z hW 13
  refine zblq Z rfl [(.dup, 1)] (S' := (35, [(0, .inr (.inr (some (8, 0)))), (1, .inl (0 : Int32))], [.inr (.inr (some (9, 10))), .inr (.inr (some (9, 10))), .inl (0 : Int32), .inr (.inr (some (901, 0)))], _)) (b := true) (by decide +kernel) rfl rfl ?_
  refine c_call (n := 3) hW hs rfl (by decide +kernel) Z (as := []) (st := [.inr (.inr (some (9, 10))), .inl (0 : Int32), .inr (.inr (some (901, 0)))]) (mc := 0) (ms := 0) (ct9_10 hW _) ho1 ho2 cwi8_19 mi9_in rfl rfl ⟨by exact Nat.le_of_ble_eq_true rfl, by exact Nat.le_of_ble_eq_true rfl⟩ rfl (by decide +kernel) ⟨by exact Nat.le_of_ble_eq_true rfl, by exact Nat.le_of_ble_eq_true rfl⟩ ?_
  replace Z := c_Z Z hW 13
  refine c_aast Z (t := 3) (jn := 0) (zmU (j := 11) rfl (by decide)) (zmU (j := 12) rfl (by decide)) ⟨rfl, Or.inr ⟨rfl, rfl⟩⟩ (by decide) (by decide) (by decide +kernel) ?_
  refine zblq Z rfl [(.iinc 1 1, 3), (.ldc 21, 3), (.iload 1, 1), (.iconst 4, 1)] (S' := (23, [(0, .inr (.inr (some (8, 0)))), (1, .inl (1 : Int32))], [.inl (4 : Int32), .inl (1 : Int32)], _)) (b := true) (by decide +kernel) rfl rfl ?_
  refine zic_ge Z (off := 22) (tgt := 45) (by decide +kernel) (by decide) (fun h => absurd h (by decide)) (fun _ => ?_)
  refine zblq Z rfl [(.aload 0, 1)] (S' := (27, [(0, .inr (.inr (some (8, 0)))), (1, .inl (1 : Int32))], [.inr (.inr (some (8, 0)))], _)) (b := true) (by decide +kernel) rfl rfl ?_
  refine c_getR Z (idx := 15) (ss := 1) (r := (901, 0)) (zmU (j := 9) rfl (by decide)) (by decide) (by decide) rfl (by decide +kernel) rfl (by decide +kernel) ?_
  refine zblq Z rfl [(.iload 1, 1)] (S' := (31, [(0, .inr (.inr (some (8, 0)))), (1, .inl (1 : Int32))], [.inl (1 : Int32), .inr (.inr (some (901, 0)))], _)) (b := true) (by decide +kernel) rfl rfl ?_
  refine c_new (n := 3) hW hs rfl (kk := 9) (i := 11) rfl Z (by decide) lk8_13 ist_9 ini_9 ⟨by exact Nat.le_of_ble_eq_true rfl, by exact Nat.le_of_ble_eq_true rfl⟩ (by decide +kernel) ?_
  replace Z := c_Z Z hW 14
  refine zblq Z rfl [(.dup, 1)] (S' := (35, [(0, .inr (.inr (some (8, 0)))), (1, .inl (1 : Int32))], [.inr (.inr (some (9, 11))), .inr (.inr (some (9, 11))), .inl (1 : Int32), .inr (.inr (some (901, 0)))], _)) (b := true) (by decide +kernel) rfl rfl ?_
  refine c_call (n := 4) hW hs rfl (by decide +kernel) Z (as := []) (st := [.inr (.inr (some (9, 11))), .inl (1 : Int32), .inr (.inr (some (901, 0)))]) (mc := 0) (ms := 0) (ct9_11 hW _) ho1 ho2 cwi8_19 mi9_in rfl rfl ⟨by exact Nat.le_of_ble_eq_true rfl, by exact Nat.le_of_ble_eq_true rfl⟩ rfl (by decide +kernel) ⟨by exact Nat.le_of_ble_eq_true rfl, by exact Nat.le_of_ble_eq_true rfl⟩ ?_
  replace Z := c_Z Z hW 14
  refine c_aast Z (t := 3) (jn := 1) (zmU (j := 11) rfl (by decide)) (zmU (j := 13) rfl (by decide)) ⟨rfl, Or.inr ⟨rfl, rfl⟩⟩ (by decide) (by decide) (by decide +kernel) ?_
  refine zblq Z rfl [(.iinc 1 1, 3), (.ldc 21, 3), (.iload 1, 1), (.iconst 4, 1)] (S' := (23, [(0, .inr (.inr (some (8, 0)))), (1, .inl (2 : Int32))], [.inl (4 : Int32), .inl (2 : Int32)], _)) (b := true) (by decide +kernel) rfl rfl ?_
  refine zic_ge Z (off := 22) (tgt := 45) (by decide +kernel) (by decide) (fun h => absurd h (by decide)) (fun _ => ?_)
  refine zblq Z rfl [(.aload 0, 1)] (S' := (27, [(0, .inr (.inr (some (8, 0)))), (1, .inl (2 : Int32))], [.inr (.inr (some (8, 0)))], _)) (b := true) (by decide +kernel) rfl rfl ?_
  refine c_getR Z (idx := 15) (ss := 1) (r := (901, 0)) (zmU (j := 9) rfl (by decide)) (by decide) (by decide) rfl (by decide +kernel) rfl (by decide +kernel) ?_
  refine zblq Z rfl [(.iload 1, 1)] (S' := (31, [(0, .inr (.inr (some (8, 0)))), (1, .inl (2 : Int32))], [.inl (2 : Int32), .inr (.inr (some (901, 0)))], _)) (b := true) (by decide +kernel) rfl rfl ?_
  refine c_new (n := 4) hW hs rfl (kk := 9) (i := 12) rfl Z (by decide) lk8_13 ist_9 ini_9 ⟨by exact Nat.le_of_ble_eq_true rfl, by exact Nat.le_of_ble_eq_true rfl⟩ (by decide +kernel) ?_
  replace Z := c_Z Z hW 15
  refine zblq Z rfl [(.dup, 1)] (S' := (35, [(0, .inr (.inr (some (8, 0)))), (1, .inl (2 : Int32))], [.inr (.inr (some (9, 12))), .inr (.inr (some (9, 12))), .inl (2 : Int32), .inr (.inr (some (901, 0)))], _)) (b := true) (by decide +kernel) rfl rfl ?_
  refine c_call (n := 5) hW hs rfl (by decide +kernel) Z (as := []) (st := [.inr (.inr (some (9, 12))), .inl (2 : Int32), .inr (.inr (some (901, 0)))]) (mc := 0) (ms := 0) (ct9_12 hW _) ho1 ho2 cwi8_19 mi9_in rfl rfl ⟨by exact Nat.le_of_ble_eq_true rfl, by exact Nat.le_of_ble_eq_true rfl⟩ rfl (by decide +kernel) ⟨by exact Nat.le_of_ble_eq_true rfl, by exact Nat.le_of_ble_eq_true rfl⟩ ?_
  replace Z := c_Z Z hW 15
  refine c_aast Z (t := 3) (jn := 2) (zmU (j := 11) rfl (by decide)) (zmU (j := 14) rfl (by decide)) ⟨rfl, Or.inr ⟨rfl, rfl⟩⟩ (by decide) (by decide) (by decide +kernel) ?_
  refine zblq Z rfl [(.iinc 1 1, 3), (.ldc 21, 3), (.iload 1, 1), (.iconst 4, 1)] (S' := (23, [(0, .inr (.inr (some (8, 0)))), (1, .inl (3 : Int32))], [.inl (4 : Int32), .inl (3 : Int32)], _)) (b := true) (by decide +kernel) rfl rfl ?_
  refine zic_ge Z (off := 22) (tgt := 45) (by decide +kernel) (by decide) (fun h => absurd h (by decide)) (fun _ => ?_)
  refine zblq Z rfl [(.aload 0, 1)] (S' := (27, [(0, .inr (.inr (some (8, 0)))), (1, .inl (3 : Int32))], [.inr (.inr (some (8, 0)))], _)) (b := true) (by decide +kernel) rfl rfl ?_
  refine c_getR Z (idx := 15) (ss := 1) (r := (901, 0)) (zmU (j := 9) rfl (by decide)) (by decide) (by decide) rfl (by decide +kernel) rfl (by decide +kernel) ?_
  refine zblq Z rfl [(.iload 1, 1)] (S' := (31, [(0, .inr (.inr (some (8, 0)))), (1, .inl (3 : Int32))], [.inl (3 : Int32), .inr (.inr (some (901, 0)))], _)) (b := true) (by decide +kernel) rfl rfl ?_
  refine c_new (n := 5) hW hs rfl (kk := 9) (i := 13) rfl Z (by decide) lk8_13 ist_9 ini_9 ⟨by exact Nat.le_of_ble_eq_true rfl, by exact Nat.le_of_ble_eq_true rfl⟩ (by decide +kernel) ?_
  replace Z := c_Z Z hW 16
  refine zblq Z rfl [(.dup, 1)] (S' := (35, [(0, .inr (.inr (some (8, 0)))), (1, .inl (3 : Int32))], [.inr (.inr (some (9, 13))), .inr (.inr (some (9, 13))), .inl (3 : Int32), .inr (.inr (some (901, 0)))], _)) (b := true) (by decide +kernel) rfl rfl ?_
  refine c_call (n := 6) hW hs rfl (by decide +kernel) Z (as := []) (st := [.inr (.inr (some (9, 13))), .inl (3 : Int32), .inr (.inr (some (901, 0)))]) (mc := 0) (ms := 0) (ct9_13 hW _) ho1 ho2 cwi8_19 mi9_in rfl rfl ⟨by exact Nat.le_of_ble_eq_true rfl, by exact Nat.le_of_ble_eq_true rfl⟩ rfl (by decide +kernel) ⟨by exact Nat.le_of_ble_eq_true rfl, by exact Nat.le_of_ble_eq_true rfl⟩ ?_
  replace Z := c_Z Z hW 16
  refine c_aast Z (t := 3) (jn := 3) (zmU (j := 11) rfl (by decide)) (zmU (j := 15) rfl (by decide)) ⟨rfl, Or.inr ⟨rfl, rfl⟩⟩ (by decide) (by decide) (by decide +kernel) ?_
  refine zblq Z rfl [(.iinc 1 1, 3), (.ldc 21, 3), (.iload 1, 1), (.iconst 4, 1)] (S' := (23, [(0, .inr (.inr (some (8, 0)))), (1, .inl (4 : Int32))], [.inl (4 : Int32), .inl (4 : Int32)], _)) (b := true) (by decide +kernel) rfl rfl ?_
  refine zic_ge Z (off := 22) (tgt := 45) (by decide +kernel) (by decide) (fun _ => ?_) (fun h => absurd (by decide) h)
  exact zret_c Z hA hE (by decide +kernel)
def mk2_0 (M : zM) : zM := zfl (zwI (zwF (zclr (zwF (mk8_0 (zclr (zwF (mk9_0 (zclr (zwF (zclr (zwI (zwI (zwI (zwI (zwI (zwI M 2 0 3 (1 : Int32)) 2 0 4 (1 : Int32)) 2 0 7 (-1 : Int32)) 2 0 8 (-1 : Int32)) 2 0 10 (16 : Int32)) 2 0 11 (36 : Int32)) 312 0) 2 0 12 (312, 0)) 9 0)) 2 0 13 (9, 0)) 8 0)) 2 0 15 (8, 0)) 317 0) 2 0 17 (317, 0)) 2 0 0 (0 : Int32)) 312 0 (zak 312).2 (16 : Int32)
set_option maxRecDepth 100000 in
theorem ct2_0 {l : Launch} {D : va_G} {ad : zR → Nat} {ca : Nat → ClassId} {A : Nat → Prop} {base : Nat} (hW : zWh zUC base ad A) (M : zM) : zMetC l yX2_init cX2_init 2 3 10 68 53 [.inr (.inr (some (2, 0))), .inl (0 : Int32)] (base + 7) (zGt zUC D ad ca A 7) M (zGt zUC D ad ca A 17) (mk2_0 M) := by
  refine zMetC_of (zGt_ok hW _) rfl tbK2_ok rfl rfl (by decide +kernel) (Nat.le_of_ble_eq_true rfl) (fun X _ Z hA hE => ?_)
  obtain ⟨p, l', e, R, s, m, args, below, meth, c, Q⟩ := X
  obtain ⟨hR, -, hin, hs, ho1, ho2⟩ := id hA
  subst hR
  refine zblq Z rfl [(.aload 0, 1)] (S' := (1, [(0, .inr (.inr (some (2, 0)))), (1, .inl (0 : Int32))], [.inr (.inr (some (2, 0)))], _)) (b := true) (by decide +kernel) rfl rfl ?_
  refine z_obj Z ol2_3 ol_in ol_cd ⟨by exact Nat.le_of_ble_eq_true rfl, by exact Nat.le_of_ble_eq_true rfl⟩ (by decide +kernel) ?_
  refine zblq Z rfl [(.aload 0, 1), (.iconst 1, 1)] (S' := (6, [(0, .inr (.inr (some (2, 0)))), (1, .inl (0 : Int32))], [.inl (1 : Int32), .inr (.inr (some (2, 0)))], _)) (b := true) (by decide +kernel) rfl rfl ?_
  refine c_putI Z (idx := 9) (ss := 3) (zmU (j := 6) rfl (by decide)) (by decide) (by decide) rfl (by decide +kernel) rfl (by decide +kernel) ?_
  refine zblq Z rfl [(.aload 0, 1), (.iconst 1, 1)] (S' := (11, [(0, .inr (.inr (some (2, 0)))), (1, .inl (0 : Int32))], [.inl (1 : Int32), .inr (.inr (some (2, 0)))], _)) (b := true) (by decide +kernel) rfl rfl ?_
  refine c_putI Z (idx := 15) (ss := 4) (zmU (j := 6) rfl (by decide)) (by decide) (by decide) rfl (by decide +kernel) rfl (by decide +kernel) ?_
  refine zblq Z rfl [(.aload 0, 1), (.iconst (-1), 1)] (S' := (16, [(0, .inr (.inr (some (2, 0)))), (1, .inl (0 : Int32))], [.inl (-1 : Int32), .inr (.inr (some (2, 0)))], _)) (b := true) (by decide +kernel) rfl rfl ?_
  refine c_putI Z (idx := 18) (ss := 7) (zmU (j := 6) rfl (by decide)) (by decide) (by decide) rfl (by decide +kernel) rfl (by decide +kernel) ?_
  refine zblq Z rfl [(.aload 0, 1), (.iconst (-1), 1)] (S' := (21, [(0, .inr (.inr (some (2, 0)))), (1, .inl (0 : Int32))], [.inl (-1 : Int32), .inr (.inr (some (2, 0)))], _)) (b := true) (by decide +kernel) rfl rfl ?_
  refine c_putI Z (idx := 21) (ss := 8) (zmU (j := 6) rfl (by decide)) (by decide) (by decide) rfl (by decide +kernel) rfl (by decide +kernel) ?_
  refine zblq Z rfl [(.aload 0, 1), (.iconst 16, 2)] (S' := (27, [(0, .inr (.inr (some (2, 0)))), (1, .inl (0 : Int32))], [.inl (16 : Int32), .inr (.inr (some (2, 0)))], _)) (b := true) (by decide +kernel) rfl rfl ?_
  refine c_putI Z (idx := 24) (ss := 10) (zmU (j := 6) rfl (by decide)) (by decide) (by decide) rfl (by decide +kernel) rfl (by decide +kernel) ?_
  refine zblq Z rfl [(.aload 0, 1), (.iconst 36, 2)] (S' := (33, [(0, .inr (.inr (some (2, 0)))), (1, .inl (0 : Int32))], [.inl (36 : Int32), .inr (.inr (some (2, 0)))], _)) (b := true) (by decide +kernel) rfl rfl ?_
  refine c_putI Z (idx := 27) (ss := 11) (zmU (j := 6) rfl (by decide)) (by decide) (by decide) rfl (by decide +kernel) rfl (by decide +kernel) ?_
  refine zblq Z rfl [(.aload 0, 1), (.iconst 24, 2)] (S' := (39, [(0, .inr (.inr (some (2, 0)))), (1, .inl (0 : Int32))], [.inl (24 : Int32), .inr (.inr (some (2, 0)))], _)) (b := true) (by decide +kernel) rfl rfl ?_
  refine c_newa (n := 0) hW hs rfl (kk := 312) (i := 0) rfl Z (Or.inl ⟨rfl, rfl⟩) rfl acl_0 (by decide) ⟨by exact Nat.le_of_ble_eq_true rfl, by exact Nat.le_of_ble_eq_true rfl⟩ (by decide +kernel) ?_
  replace Z := c_Z Z hW 8
  refine c_putR Z (idx := 30) (ss := 12) (zmU (j := 6) rfl (by decide)) (by decide) (by decide) rfl (by decide +kernel) (Or.inr ⟨rfl, hin, rfl⟩) (by decide +kernel) ?_
  refine zblq Z rfl [(.aload 0, 1)] (S' := (45, [(0, .inr (.inr (some (2, 0)))), (1, .inl (0 : Int32))], [.inr (.inr (some (2, 0)))], _)) (b := true) (by decide +kernel) rfl rfl ?_
  refine c_new (n := 1) hW hs rfl (kk := 9) (i := 0) rfl Z (by decide) lk2_34 ist_9 ini_9 ⟨by exact Nat.le_of_ble_eq_true rfl, by exact Nat.le_of_ble_eq_true rfl⟩ (by decide +kernel) ?_
  replace Z := c_Z Z hW 9
  refine zblq Z rfl [(.dup, 1)] (S' := (49, [(0, .inr (.inr (some (2, 0)))), (1, .inl (0 : Int32))], [.inr (.inr (some (9, 0))), .inr (.inr (some (9, 0))), .inr (.inr (some (2, 0)))], _)) (b := true) (by decide +kernel) rfl rfl ?_
  refine c_call (n := 2) hW hs rfl (by decide +kernel) Z (as := []) (st := [.inr (.inr (some (9, 0))), .inr (.inr (some (2, 0)))]) (mc := 0) (ms := 0) (ct9_0 hW _) ho1 ho2 cwi2_36 mi9_in rfl rfl ⟨by exact Nat.le_of_ble_eq_true rfl, by exact Nat.le_of_ble_eq_true rfl⟩ rfl (by decide +kernel) ⟨by exact Nat.le_of_ble_eq_true rfl, by exact Nat.le_of_ble_eq_true rfl⟩ ?_
  replace Z := c_Z Z hW 9
  refine c_putR Z (idx := 37) (ss := 13) (zmU (j := 6) rfl (by decide)) (by decide) (by decide) rfl (by decide +kernel) (Or.inr ⟨rfl, hin, rfl⟩) (by decide +kernel) ?_
  refine zblq Z rfl [(.aload 0, 1)] (S' := (56, [(0, .inr (.inr (some (2, 0)))), (1, .inl (0 : Int32))], [.inr (.inr (some (2, 0)))], _)) (b := true) (by decide +kernel) rfl rfl ?_
  refine c_new (n := 2) hW hs rfl (kk := 8) (i := 0) rfl Z (by decide) lk2_41 ist_8 ini_8 ⟨by exact Nat.le_of_ble_eq_true rfl, by exact Nat.le_of_ble_eq_true rfl⟩ (by decide +kernel) ?_
  replace Z := c_Z Z hW 10
  refine zblq Z rfl [(.dup, 1)] (S' := (60, [(0, .inr (.inr (some (2, 0)))), (1, .inl (0 : Int32))], [.inr (.inr (some (8, 0))), .inr (.inr (some (8, 0))), .inr (.inr (some (2, 0)))], _)) (b := true) (by decide +kernel) rfl rfl ?_
  refine c_call (n := 3) hW hs rfl (by decide +kernel) Z (as := []) (st := [.inr (.inr (some (8, 0))), .inr (.inr (some (2, 0)))]) (mc := 6) (ms := 28) (ct8_0 hW _) ho1 ho2 cwi2_43 mi8_in rfl rfl ⟨by exact Nat.le_of_ble_eq_true rfl, by exact Nat.le_of_ble_eq_true rfl⟩ rfl (by decide +kernel) ⟨by exact Nat.le_of_ble_eq_true rfl, by exact Nat.le_of_ble_eq_true rfl⟩ ?_
  replace Z := c_Z Z hW 16
  refine c_putR Z (idx := 44) (ss := 15) (zmU (j := 6) rfl (by decide)) (by decide) (by decide) rfl (by decide +kernel) (Or.inr ⟨rfl, hin, rfl⟩) (by decide +kernel) ?_
  refine zblq Z rfl [(.aload 0, 1), (.iconst 8, 2)] (S' := (69, [(0, .inr (.inr (some (2, 0)))), (1, .inl (0 : Int32))], [.inl (8 : Int32), .inr (.inr (some (2, 0)))], _)) (b := true) (by decide +kernel) rfl rfl ?_
  refine c_newa (n := 9) hW hs rfl (kk := 317) (i := 0) rfl Z (Or.inl ⟨rfl, rfl⟩) rfl acl_0 (by decide) ⟨by exact Nat.le_of_ble_eq_true rfl, by exact Nat.le_of_ble_eq_true rfl⟩ (by decide +kernel) ?_
  replace Z := c_Z Z hW 17
  refine c_putR Z (idx := 50) (ss := 17) (zmU (j := 6) rfl (by decide)) (by decide) (by decide) rfl (by decide +kernel) (Or.inr ⟨rfl, hin, rfl⟩) (by decide +kernel) ?_
  refine zblq Z rfl [(.aload 0, 1), (.iload 1, 1)] (S' := (76, [(0, .inr (.inr (some (2, 0)))), (1, .inl (0 : Int32))], [.inl (0 : Int32), .inr (.inr (some (2, 0)))], _)) (b := true) (by decide +kernel) rfl rfl ?_
  refine c_putF Z (idx := 53) (ss := 0) (zmU (j := 6) rfl (by decide)) (by decide) (by decide) rfl (by decide +kernel) ⟨rfl, hin, rfl⟩ (by decide +kernel) ?_
  refine zblq Z rfl [(.aload 0, 1)] (S' := (80, [(0, .inr (.inr (some (2, 0)))), (1, .inl (0 : Int32))], [.inr (.inr (some (2, 0)))], _)) (b := true) (by decide +kernel) rfl rfl ?_
  refine c_getR Z (idx := 30) (ss := 12) (r := (312, 0)) (zmU (j := 6) rfl (by decide)) (by decide) (by decide) rfl (by decide +kernel) rfl (by decide +kernel) ?_
  refine zblq Z rfl [(.iconst 16, 2)] (S' := (85, [(0, .inr (.inr (some (2, 0)))), (1, .inl (0 : Int32))], [.inl (16 : Int32), .inr (.inr (some (312, 0)))], _)) (b := true) (by decide +kernel) rfl rfl ?_
  refine zcallS Z (as := [.inr (.inr (some (312, 0))), .inl (16 : Int32)]) (st := []) (c_fill (zGt_ok hW _) (zmU (j := 7) rfl (by decide)) rfl (by decide)) cwi2_56 mJ7_fill_in rfl ⟨by exact Nat.le_of_ble_eq_true rfl, by exact Nat.le_of_ble_eq_true rfl⟩ rfl (by decide +kernel) ⟨by exact Nat.le_of_ble_eq_true rfl, by exact Nat.le_of_ble_eq_true rfl⟩ ?_
  exact zret_c Z hA hE (by decide +kernel)
def mk9_1 (M : zM) : zM := M
set_option maxRecDepth 100000 in
theorem ct9_1 {l : Launch} {D : va_G} {ad : zR → Nat} {ca : Nat → ClassId} {A : Nat → Prop} {base : Nat} (hW : zWh zUC base ad A) (M : zM) : zMetC l yX9_init cX9_init 1 1 0 0 12 [.inr (.inr (some (9, 1)))] (base + 20) (zGt zUC D ad ca A 20) M (zGt zUC D ad ca A 20) (mk9_1 M) := by
  refine zMetC_of (zGt_ok hW _) rfl tbK9_ok rfl rfl (by decide +kernel) (Nat.le_of_ble_eq_true rfl) (fun X _ Z hA hE => ?_)
  obtain ⟨p, l', e, R, s, m, args, below, meth, c, Q⟩ := X
  obtain ⟨hR, -, hin, hs, ho1, ho2⟩ := id hA
  subst hR
  refine zblq Z rfl [(.aload 0, 1)] (S' := (1, [(0, .inr (.inr (some (9, 1))))], [.inr (.inr (some (9, 1)))], _)) (b := true) (by decide +kernel) rfl rfl ?_
  refine z_obj Z ol9_1 ol_in ol_cd ⟨by exact Nat.le_of_ble_eq_true rfl, by exact Nat.le_of_ble_eq_true rfl⟩ (by decide +kernel) ?_
  exact zret_c Z hA hE (by decide +kernel)
def mk9_14 (M : zM) : zM := M
set_option maxRecDepth 100000 in
theorem ct9_14 {l : Launch} {D : va_G} {ad : zR → Nat} {ca : Nat → ClassId} {A : Nat → Prop} {base : Nat} (hW : zWh zUC base ad A) (M : zM) : zMetC l yX9_init cX9_init 1 1 0 0 12 [.inr (.inr (some (9, 14)))] (base + 24) (zGt zUC D ad ca A 24) M (zGt zUC D ad ca A 24) (mk9_14 M) := by
  refine zMetC_of (zGt_ok hW _) rfl tbK9_ok rfl rfl (by decide +kernel) (Nat.le_of_ble_eq_true rfl) (fun X _ Z hA hE => ?_)
  obtain ⟨p, l', e, R, s, m, args, below, meth, c, Q⟩ := X
  obtain ⟨hR, -, hin, hs, ho1, ho2⟩ := id hA
  subst hR
  refine zblq Z rfl [(.aload 0, 1)] (S' := (1, [(0, .inr (.inr (some (9, 14))))], [.inr (.inr (some (9, 14)))], _)) (b := true) (by decide +kernel) rfl rfl ?_
  refine z_obj Z ol9_1 ol_in ol_cd ⟨by exact Nat.le_of_ble_eq_true rfl, by exact Nat.le_of_ble_eq_true rfl⟩ (by decide +kernel) ?_
  exact zret_c Z hA hE (by decide +kernel)
def mk9_15 (M : zM) : zM := M
set_option maxRecDepth 100000 in
theorem ct9_15 {l : Launch} {D : va_G} {ad : zR → Nat} {ca : Nat → ClassId} {A : Nat → Prop} {base : Nat} (hW : zWh zUC base ad A) (M : zM) : zMetC l yX9_init cX9_init 1 1 0 0 12 [.inr (.inr (some (9, 15)))] (base + 25) (zGt zUC D ad ca A 25) M (zGt zUC D ad ca A 25) (mk9_15 M) := by
  refine zMetC_of (zGt_ok hW _) rfl tbK9_ok rfl rfl (by decide +kernel) (Nat.le_of_ble_eq_true rfl) (fun X _ Z hA hE => ?_)
  obtain ⟨p, l', e, R, s, m, args, below, meth, c, Q⟩ := X
  obtain ⟨hR, -, hin, hs, ho1, ho2⟩ := id hA
  subst hR
  refine zblq Z rfl [(.aload 0, 1)] (S' := (1, [(0, .inr (.inr (some (9, 15))))], [.inr (.inr (some (9, 15)))], _)) (b := true) (by decide +kernel) rfl rfl ?_
  refine z_obj Z ol9_1 ol_in ol_cd ⟨by exact Nat.le_of_ble_eq_true rfl, by exact Nat.le_of_ble_eq_true rfl⟩ (by decide +kernel) ?_
  exact zret_c Z hA hE (by decide +kernel)
def mk9_16 (M : zM) : zM := M
set_option maxRecDepth 100000 in
theorem ct9_16 {l : Launch} {D : va_G} {ad : zR → Nat} {ca : Nat → ClassId} {A : Nat → Prop} {base : Nat} (hW : zWh zUC base ad A) (M : zM) : zMetC l yX9_init cX9_init 1 1 0 0 12 [.inr (.inr (some (9, 16)))] (base + 26) (zGt zUC D ad ca A 26) M (zGt zUC D ad ca A 26) (mk9_16 M) := by
  refine zMetC_of (zGt_ok hW _) rfl tbK9_ok rfl rfl (by decide +kernel) (Nat.le_of_ble_eq_true rfl) (fun X _ Z hA hE => ?_)
  obtain ⟨p, l', e, R, s, m, args, below, meth, c, Q⟩ := X
  obtain ⟨hR, -, hin, hs, ho1, ho2⟩ := id hA
  subst hR
  refine zblq Z rfl [(.aload 0, 1)] (S' := (1, [(0, .inr (.inr (some (9, 16))))], [.inr (.inr (some (9, 16)))], _)) (b := true) (by decide +kernel) rfl rfl ?_
  refine z_obj Z ol9_1 ol_in ol_cd ⟨by exact Nat.le_of_ble_eq_true rfl, by exact Nat.le_of_ble_eq_true rfl⟩ (by decide +kernel) ?_
  exact zret_c Z hA hE (by decide +kernel)
def mk9_17 (M : zM) : zM := M
set_option maxRecDepth 100000 in
theorem ct9_17 {l : Launch} {D : va_G} {ad : zR → Nat} {ca : Nat → ClassId} {A : Nat → Prop} {base : Nat} (hW : zWh zUC base ad A) (M : zM) : zMetC l yX9_init cX9_init 1 1 0 0 12 [.inr (.inr (some (9, 17)))] (base + 27) (zGt zUC D ad ca A 27) M (zGt zUC D ad ca A 27) (mk9_17 M) := by
  refine zMetC_of (zGt_ok hW _) rfl tbK9_ok rfl rfl (by decide +kernel) (Nat.le_of_ble_eq_true rfl) (fun X _ Z hA hE => ?_)
  obtain ⟨p, l', e, R, s, m, args, below, meth, c, Q⟩ := X
  obtain ⟨hR, -, hin, hs, ho1, ho2⟩ := id hA
  subst hR
  refine zblq Z rfl [(.aload 0, 1)] (S' := (1, [(0, .inr (.inr (some (9, 17))))], [.inr (.inr (some (9, 17)))], _)) (b := true) (by decide +kernel) rfl rfl ?_
  refine z_obj Z ol9_1 ol_in ol_cd ⟨by exact Nat.le_of_ble_eq_true rfl, by exact Nat.le_of_ble_eq_true rfl⟩ (by decide +kernel) ?_
  exact zret_c Z hA hE (by decide +kernel)
def mk8_1 (M : zM) : zM := zwF (mk9_17 (zclr (zwF (mk9_16 (zclr (zwF (mk9_15 (zclr (zwF (mk9_14 (zclr (zwF (zclr (zwF (zclr M 900 1) 8 1 0 (900, 1)) 901 1) 8 1 1 (901, 1)) 9 14)) 901 1 0 (9, 14)) 9 15)) 901 1 1 (9, 15)) 9 16)) 901 1 2 (9, 16)) 9 17)) 901 1 3 (9, 17)
set_option maxRecDepth 100000 in
theorem ct8_1 {l : Launch} {D : va_G} {ad : zR → Nat} {ca : Nat → ClassId} {A : Nat → Prop} {base : Nat} (hW : zWh zUC base ad A) (M : zM) : zMetC l yX8_init cX8_init 2 2 6 28 32 [.inr (.inr (some (8, 1)))] (base + 21) (zGt zUC D ad ca A 21) M (zGt zUC D ad ca A 27) (mk8_1 M) := by
  refine zMetC_of (zGt_ok hW _) rfl tbK8_ok rfl rfl (by decide +kernel) (Nat.le_of_ble_eq_true rfl) (fun X _ Z hA hE => ?_)
  obtain ⟨p, l', e, R, s, m, args, below, meth, c, Q⟩ := X
  obtain ⟨hR, -, hin, hs, ho1, ho2⟩ := id hA
  subst hR
  refine zblq Z rfl [(.aload 0, 1)] (S' := (1, [(0, .inr (.inr (some (8, 1))))], [.inr (.inr (some (8, 1)))], _)) (b := true) (by decide +kernel) rfl rfl ?_
  refine z_obj Z ol8_1 ol_in ol_cd ⟨by exact Nat.le_of_ble_eq_true rfl, by exact Nat.le_of_ble_eq_true rfl⟩ (by decide +kernel) ?_
  refine zblq Z rfl [(.aload 0, 1), (.iconst 4, 1)] (S' := (6, [(0, .inr (.inr (some (8, 1))))], [.inl (4 : Int32), .inr (.inr (some (8, 1)))], _)) (b := true) (by decide +kernel) rfl rfl ?_
  refine c_newa (n := 0) hW hs rfl (kk := 900) (i := 1) rfl Z (Or.inl ⟨rfl, rfl⟩) rfl acl_0 (by decide) ⟨by exact Nat.le_of_ble_eq_true rfl, by exact Nat.le_of_ble_eq_true rfl⟩ (by decide +kernel) ?_
  replace Z := c_Z Z hW 22
  refine c_putR Z (idx := 9) (ss := 0) (zmU (j := 20) rfl (by decide)) (by decide) (by decide) rfl (by decide +kernel) (Or.inr ⟨rfl, hin, rfl⟩) (by decide +kernel) ?_
  refine zblq Z rfl [(.aload 0, 1), (.iconst 4, 1)] (S' := (13, [(0, .inr (.inr (some (8, 1))))], [.inl (4 : Int32), .inr (.inr (some (8, 1)))], _)) (b := true) (by decide +kernel) rfl rfl ?_
  refine c_newq (n := 1) hW hs rfl (kk := 901) (i := 1) (C0 := "EarField$Sum") rfl Z (Or.inr ⟨rfl, rfl⟩) rfl lk8_13 ho2 (by decide) ⟨by exact Nat.le_of_ble_eq_true rfl, by exact Nat.le_of_ble_eq_true rfl⟩ (by decide +kernel) ?_
  replace Z := c_Z Z hW 23
  refine c_putR Z (idx := 15) (ss := 1) (zmU (j := 20) rfl (by decide)) (by decide) (by decide) rfl (by decide +kernel) (Or.inr ⟨rfl, hin, rfl⟩) (by decide +kernel) ?_
  refine zblq Z rfl [(.iconst 0, 1), (.istore 1, 1), (.iload 1, 1), (.iconst 4, 1)] (S' := (23, [(0, .inr (.inr (some (8, 1)))), (1, .inl (0 : Int32))], [.inl (4 : Int32), .inl (0 : Int32)], _)) (b := true) (by decide +kernel) rfl rfl ?_
  refine zic_ge Z (off := 22) (tgt := 45) (by decide +kernel) (by decide) (fun h => absurd h (by decide)) (fun _ => ?_)
  refine zblq Z rfl [(.aload 0, 1)] (S' := (27, [(0, .inr (.inr (some (8, 1)))), (1, .inl (0 : Int32))], [.inr (.inr (some (8, 1)))], _)) (b := true) (by decide +kernel) rfl rfl ?_
  refine c_getR Z (idx := 15) (ss := 1) (r := (901, 1)) (zmU (j := 20) rfl (by decide)) (by decide) (by decide) rfl (by decide +kernel) rfl (by decide +kernel) ?_
  refine zblq Z rfl [(.iload 1, 1)] (S' := (31, [(0, .inr (.inr (some (8, 1)))), (1, .inl (0 : Int32))], [.inl (0 : Int32), .inr (.inr (some (901, 1)))], _)) (b := true) (by decide +kernel) rfl rfl ?_
  refine c_new (n := 2) hW hs rfl (kk := 9) (i := 14) rfl Z (by decide) lk8_13 ist_9 ini_9 ⟨by exact Nat.le_of_ble_eq_true rfl, by exact Nat.le_of_ble_eq_true rfl⟩ (by decide +kernel) ?_
  replace Z := c_Z Z hW 24
  refine zblq Z rfl [(.dup, 1)] (S' := (35, [(0, .inr (.inr (some (8, 1)))), (1, .inl (0 : Int32))], [.inr (.inr (some (9, 14))), .inr (.inr (some (9, 14))), .inl (0 : Int32), .inr (.inr (some (901, 1)))], _)) (b := true) (by decide +kernel) rfl rfl ?_
  refine c_call (n := 3) hW hs rfl (by decide +kernel) Z (as := []) (st := [.inr (.inr (some (9, 14))), .inl (0 : Int32), .inr (.inr (some (901, 1)))]) (mc := 0) (ms := 0) (ct9_14 hW _) ho1 ho2 cwi8_19 mi9_in rfl rfl ⟨by exact Nat.le_of_ble_eq_true rfl, by exact Nat.le_of_ble_eq_true rfl⟩ rfl (by decide +kernel) ⟨by exact Nat.le_of_ble_eq_true rfl, by exact Nat.le_of_ble_eq_true rfl⟩ ?_
  replace Z := c_Z Z hW 24
  refine c_aast Z (t := 3) (jn := 0) (zmU (j := 22) rfl (by decide)) (zmU (j := 23) rfl (by decide)) ⟨rfl, Or.inr ⟨rfl, rfl⟩⟩ (by decide) (by decide) (by decide +kernel) ?_
  refine zblq Z rfl [(.iinc 1 1, 3), (.ldc 21, 3), (.iload 1, 1), (.iconst 4, 1)] (S' := (23, [(0, .inr (.inr (some (8, 1)))), (1, .inl (1 : Int32))], [.inl (4 : Int32), .inl (1 : Int32)], _)) (b := true) (by decide +kernel) rfl rfl ?_
  refine zic_ge Z (off := 22) (tgt := 45) (by decide +kernel) (by decide) (fun h => absurd h (by decide)) (fun _ => ?_)
  refine zblq Z rfl [(.aload 0, 1)] (S' := (27, [(0, .inr (.inr (some (8, 1)))), (1, .inl (1 : Int32))], [.inr (.inr (some (8, 1)))], _)) (b := true) (by decide +kernel) rfl rfl ?_
  refine c_getR Z (idx := 15) (ss := 1) (r := (901, 1)) (zmU (j := 20) rfl (by decide)) (by decide) (by decide) rfl (by decide +kernel) rfl (by decide +kernel) ?_
  refine zblq Z rfl [(.iload 1, 1)] (S' := (31, [(0, .inr (.inr (some (8, 1)))), (1, .inl (1 : Int32))], [.inl (1 : Int32), .inr (.inr (some (901, 1)))], _)) (b := true) (by decide +kernel) rfl rfl ?_
  refine c_new (n := 3) hW hs rfl (kk := 9) (i := 15) rfl Z (by decide) lk8_13 ist_9 ini_9 ⟨by exact Nat.le_of_ble_eq_true rfl, by exact Nat.le_of_ble_eq_true rfl⟩ (by decide +kernel) ?_
  replace Z := c_Z Z hW 25
  refine zblq Z rfl [(.dup, 1)] (S' := (35, [(0, .inr (.inr (some (8, 1)))), (1, .inl (1 : Int32))], [.inr (.inr (some (9, 15))), .inr (.inr (some (9, 15))), .inl (1 : Int32), .inr (.inr (some (901, 1)))], _)) (b := true) (by decide +kernel) rfl rfl ?_
  refine c_call (n := 4) hW hs rfl (by decide +kernel) Z (as := []) (st := [.inr (.inr (some (9, 15))), .inl (1 : Int32), .inr (.inr (some (901, 1)))]) (mc := 0) (ms := 0) (ct9_15 hW _) ho1 ho2 cwi8_19 mi9_in rfl rfl ⟨by exact Nat.le_of_ble_eq_true rfl, by exact Nat.le_of_ble_eq_true rfl⟩ rfl (by decide +kernel) ⟨by exact Nat.le_of_ble_eq_true rfl, by exact Nat.le_of_ble_eq_true rfl⟩ ?_
  replace Z := c_Z Z hW 25
  refine c_aast Z (t := 3) (jn := 1) (zmU (j := 22) rfl (by decide)) (zmU (j := 24) rfl (by decide)) ⟨rfl, Or.inr ⟨rfl, rfl⟩⟩ (by decide) (by decide) (by decide +kernel) ?_
  refine zblq Z rfl [(.iinc 1 1, 3), (.ldc 21, 3), (.iload 1, 1), (.iconst 4, 1)] (S' := (23, [(0, .inr (.inr (some (8, 1)))), (1, .inl (2 : Int32))], [.inl (4 : Int32), .inl (2 : Int32)], _)) (b := true) (by decide +kernel) rfl rfl ?_
  refine zic_ge Z (off := 22) (tgt := 45) (by decide +kernel) (by decide) (fun h => absurd h (by decide)) (fun _ => ?_)
  refine zblq Z rfl [(.aload 0, 1)] (S' := (27, [(0, .inr (.inr (some (8, 1)))), (1, .inl (2 : Int32))], [.inr (.inr (some (8, 1)))], _)) (b := true) (by decide +kernel) rfl rfl ?_
  refine c_getR Z (idx := 15) (ss := 1) (r := (901, 1)) (zmU (j := 20) rfl (by decide)) (by decide) (by decide) rfl (by decide +kernel) rfl (by decide +kernel) ?_
  refine zblq Z rfl [(.iload 1, 1)] (S' := (31, [(0, .inr (.inr (some (8, 1)))), (1, .inl (2 : Int32))], [.inl (2 : Int32), .inr (.inr (some (901, 1)))], _)) (b := true) (by decide +kernel) rfl rfl ?_
  refine c_new (n := 4) hW hs rfl (kk := 9) (i := 16) rfl Z (by decide) lk8_13 ist_9 ini_9 ⟨by exact Nat.le_of_ble_eq_true rfl, by exact Nat.le_of_ble_eq_true rfl⟩ (by decide +kernel) ?_
  replace Z := c_Z Z hW 26
  refine zblq Z rfl [(.dup, 1)] (S' := (35, [(0, .inr (.inr (some (8, 1)))), (1, .inl (2 : Int32))], [.inr (.inr (some (9, 16))), .inr (.inr (some (9, 16))), .inl (2 : Int32), .inr (.inr (some (901, 1)))], _)) (b := true) (by decide +kernel) rfl rfl ?_
  refine c_call (n := 5) hW hs rfl (by decide +kernel) Z (as := []) (st := [.inr (.inr (some (9, 16))), .inl (2 : Int32), .inr (.inr (some (901, 1)))]) (mc := 0) (ms := 0) (ct9_16 hW _) ho1 ho2 cwi8_19 mi9_in rfl rfl ⟨by exact Nat.le_of_ble_eq_true rfl, by exact Nat.le_of_ble_eq_true rfl⟩ rfl (by decide +kernel) ⟨by exact Nat.le_of_ble_eq_true rfl, by exact Nat.le_of_ble_eq_true rfl⟩ ?_
  replace Z := c_Z Z hW 26
  refine c_aast Z (t := 3) (jn := 2) (zmU (j := 22) rfl (by decide)) (zmU (j := 25) rfl (by decide)) ⟨rfl, Or.inr ⟨rfl, rfl⟩⟩ (by decide) (by decide) (by decide +kernel) ?_
  refine zblq Z rfl [(.iinc 1 1, 3), (.ldc 21, 3), (.iload 1, 1), (.iconst 4, 1)] (S' := (23, [(0, .inr (.inr (some (8, 1)))), (1, .inl (3 : Int32))], [.inl (4 : Int32), .inl (3 : Int32)], _)) (b := true) (by decide +kernel) rfl rfl ?_
  refine zic_ge Z (off := 22) (tgt := 45) (by decide +kernel) (by decide) (fun h => absurd h (by decide)) (fun _ => ?_)
  refine zblq Z rfl [(.aload 0, 1)] (S' := (27, [(0, .inr (.inr (some (8, 1)))), (1, .inl (3 : Int32))], [.inr (.inr (some (8, 1)))], _)) (b := true) (by decide +kernel) rfl rfl ?_
  refine c_getR Z (idx := 15) (ss := 1) (r := (901, 1)) (zmU (j := 20) rfl (by decide)) (by decide) (by decide) rfl (by decide +kernel) rfl (by decide +kernel) ?_
  refine zblq Z rfl [(.iload 1, 1)] (S' := (31, [(0, .inr (.inr (some (8, 1)))), (1, .inl (3 : Int32))], [.inl (3 : Int32), .inr (.inr (some (901, 1)))], _)) (b := true) (by decide +kernel) rfl rfl ?_
  refine c_new (n := 5) hW hs rfl (kk := 9) (i := 17) rfl Z (by decide) lk8_13 ist_9 ini_9 ⟨by exact Nat.le_of_ble_eq_true rfl, by exact Nat.le_of_ble_eq_true rfl⟩ (by decide +kernel) ?_
  replace Z := c_Z Z hW 27
  refine zblq Z rfl [(.dup, 1)] (S' := (35, [(0, .inr (.inr (some (8, 1)))), (1, .inl (3 : Int32))], [.inr (.inr (some (9, 17))), .inr (.inr (some (9, 17))), .inl (3 : Int32), .inr (.inr (some (901, 1)))], _)) (b := true) (by decide +kernel) rfl rfl ?_
  refine c_call (n := 6) hW hs rfl (by decide +kernel) Z (as := []) (st := [.inr (.inr (some (9, 17))), .inl (3 : Int32), .inr (.inr (some (901, 1)))]) (mc := 0) (ms := 0) (ct9_17 hW _) ho1 ho2 cwi8_19 mi9_in rfl rfl ⟨by exact Nat.le_of_ble_eq_true rfl, by exact Nat.le_of_ble_eq_true rfl⟩ rfl (by decide +kernel) ⟨by exact Nat.le_of_ble_eq_true rfl, by exact Nat.le_of_ble_eq_true rfl⟩ ?_
  replace Z := c_Z Z hW 27
  refine c_aast Z (t := 3) (jn := 3) (zmU (j := 22) rfl (by decide)) (zmU (j := 26) rfl (by decide)) ⟨rfl, Or.inr ⟨rfl, rfl⟩⟩ (by decide) (by decide) (by decide +kernel) ?_
  refine zblq Z rfl [(.iinc 1 1, 3), (.ldc 21, 3), (.iload 1, 1), (.iconst 4, 1)] (S' := (23, [(0, .inr (.inr (some (8, 1)))), (1, .inl (4 : Int32))], [.inl (4 : Int32), .inl (4 : Int32)], _)) (b := true) (by decide +kernel) rfl rfl ?_
  refine zic_ge Z (off := 22) (tgt := 45) (by decide +kernel) (by decide) (fun _ => ?_) (fun h => absurd (by decide) h)
  exact zret_c Z hA hE (by decide +kernel)
def mk2_1 (M : zM) : zM := zfl (zwI (zwF (zclr (zwF (mk8_1 (zclr (zwF (mk9_1 (zclr (zwF (zclr (zwI (zwI (zwI (zwI (zwI (zwI M 2 1 3 (1 : Int32)) 2 1 4 (1 : Int32)) 2 1 7 (-1 : Int32)) 2 1 8 (-1 : Int32)) 2 1 10 (16 : Int32)) 2 1 11 (36 : Int32)) 312 1) 2 1 12 (312, 1)) 9 1)) 2 1 13 (9, 1)) 8 1)) 2 1 15 (8, 1)) 317 1) 2 1 17 (317, 1)) 2 1 0 (1 : Int32)) 312 1 (zak 312).2 (16 : Int32)
set_option maxRecDepth 100000 in
theorem ct2_1 {l : Launch} {D : va_G} {ad : zR → Nat} {ca : Nat → ClassId} {A : Nat → Prop} {base : Nat} (hW : zWh zUC base ad A) (M : zM) : zMetC l yX2_init cX2_init 2 3 10 68 53 [.inr (.inr (some (2, 1))), .inl (1 : Int32)] (base + 18) (zGt zUC D ad ca A 18) M (zGt zUC D ad ca A 28) (mk2_1 M) := by
  refine zMetC_of (zGt_ok hW _) rfl tbK2_ok rfl rfl (by decide +kernel) (Nat.le_of_ble_eq_true rfl) (fun X _ Z hA hE => ?_)
  obtain ⟨p, l', e, R, s, m, args, below, meth, c, Q⟩ := X
  obtain ⟨hR, -, hin, hs, ho1, ho2⟩ := id hA
  subst hR
  refine zblq Z rfl [(.aload 0, 1)] (S' := (1, [(0, .inr (.inr (some (2, 1)))), (1, .inl (1 : Int32))], [.inr (.inr (some (2, 1)))], _)) (b := true) (by decide +kernel) rfl rfl ?_
  refine z_obj Z ol2_3 ol_in ol_cd ⟨by exact Nat.le_of_ble_eq_true rfl, by exact Nat.le_of_ble_eq_true rfl⟩ (by decide +kernel) ?_
  refine zblq Z rfl [(.aload 0, 1), (.iconst 1, 1)] (S' := (6, [(0, .inr (.inr (some (2, 1)))), (1, .inl (1 : Int32))], [.inl (1 : Int32), .inr (.inr (some (2, 1)))], _)) (b := true) (by decide +kernel) rfl rfl ?_
  refine c_putI Z (idx := 9) (ss := 3) (zmU (j := 17) rfl (by decide)) (by decide) (by decide) rfl (by decide +kernel) rfl (by decide +kernel) ?_
  refine zblq Z rfl [(.aload 0, 1), (.iconst 1, 1)] (S' := (11, [(0, .inr (.inr (some (2, 1)))), (1, .inl (1 : Int32))], [.inl (1 : Int32), .inr (.inr (some (2, 1)))], _)) (b := true) (by decide +kernel) rfl rfl ?_
  refine c_putI Z (idx := 15) (ss := 4) (zmU (j := 17) rfl (by decide)) (by decide) (by decide) rfl (by decide +kernel) rfl (by decide +kernel) ?_
  refine zblq Z rfl [(.aload 0, 1), (.iconst (-1), 1)] (S' := (16, [(0, .inr (.inr (some (2, 1)))), (1, .inl (1 : Int32))], [.inl (-1 : Int32), .inr (.inr (some (2, 1)))], _)) (b := true) (by decide +kernel) rfl rfl ?_
  refine c_putI Z (idx := 18) (ss := 7) (zmU (j := 17) rfl (by decide)) (by decide) (by decide) rfl (by decide +kernel) rfl (by decide +kernel) ?_
  refine zblq Z rfl [(.aload 0, 1), (.iconst (-1), 1)] (S' := (21, [(0, .inr (.inr (some (2, 1)))), (1, .inl (1 : Int32))], [.inl (-1 : Int32), .inr (.inr (some (2, 1)))], _)) (b := true) (by decide +kernel) rfl rfl ?_
  refine c_putI Z (idx := 21) (ss := 8) (zmU (j := 17) rfl (by decide)) (by decide) (by decide) rfl (by decide +kernel) rfl (by decide +kernel) ?_
  refine zblq Z rfl [(.aload 0, 1), (.iconst 16, 2)] (S' := (27, [(0, .inr (.inr (some (2, 1)))), (1, .inl (1 : Int32))], [.inl (16 : Int32), .inr (.inr (some (2, 1)))], _)) (b := true) (by decide +kernel) rfl rfl ?_
  refine c_putI Z (idx := 24) (ss := 10) (zmU (j := 17) rfl (by decide)) (by decide) (by decide) rfl (by decide +kernel) rfl (by decide +kernel) ?_
  refine zblq Z rfl [(.aload 0, 1), (.iconst 36, 2)] (S' := (33, [(0, .inr (.inr (some (2, 1)))), (1, .inl (1 : Int32))], [.inl (36 : Int32), .inr (.inr (some (2, 1)))], _)) (b := true) (by decide +kernel) rfl rfl ?_
  refine c_putI Z (idx := 27) (ss := 11) (zmU (j := 17) rfl (by decide)) (by decide) (by decide) rfl (by decide +kernel) rfl (by decide +kernel) ?_
  refine zblq Z rfl [(.aload 0, 1), (.iconst 24, 2)] (S' := (39, [(0, .inr (.inr (some (2, 1)))), (1, .inl (1 : Int32))], [.inl (24 : Int32), .inr (.inr (some (2, 1)))], _)) (b := true) (by decide +kernel) rfl rfl ?_
  refine c_newa (n := 0) hW hs rfl (kk := 312) (i := 1) rfl Z (Or.inl ⟨rfl, rfl⟩) rfl acl_0 (by decide) ⟨by exact Nat.le_of_ble_eq_true rfl, by exact Nat.le_of_ble_eq_true rfl⟩ (by decide +kernel) ?_
  replace Z := c_Z Z hW 19
  refine c_putR Z (idx := 30) (ss := 12) (zmU (j := 17) rfl (by decide)) (by decide) (by decide) rfl (by decide +kernel) (Or.inr ⟨rfl, hin, rfl⟩) (by decide +kernel) ?_
  refine zblq Z rfl [(.aload 0, 1)] (S' := (45, [(0, .inr (.inr (some (2, 1)))), (1, .inl (1 : Int32))], [.inr (.inr (some (2, 1)))], _)) (b := true) (by decide +kernel) rfl rfl ?_
  refine c_new (n := 1) hW hs rfl (kk := 9) (i := 1) rfl Z (by decide) lk2_34 ist_9 ini_9 ⟨by exact Nat.le_of_ble_eq_true rfl, by exact Nat.le_of_ble_eq_true rfl⟩ (by decide +kernel) ?_
  replace Z := c_Z Z hW 20
  refine zblq Z rfl [(.dup, 1)] (S' := (49, [(0, .inr (.inr (some (2, 1)))), (1, .inl (1 : Int32))], [.inr (.inr (some (9, 1))), .inr (.inr (some (9, 1))), .inr (.inr (some (2, 1)))], _)) (b := true) (by decide +kernel) rfl rfl ?_
  refine c_call (n := 2) hW hs rfl (by decide +kernel) Z (as := []) (st := [.inr (.inr (some (9, 1))), .inr (.inr (some (2, 1)))]) (mc := 0) (ms := 0) (ct9_1 hW _) ho1 ho2 cwi2_36 mi9_in rfl rfl ⟨by exact Nat.le_of_ble_eq_true rfl, by exact Nat.le_of_ble_eq_true rfl⟩ rfl (by decide +kernel) ⟨by exact Nat.le_of_ble_eq_true rfl, by exact Nat.le_of_ble_eq_true rfl⟩ ?_
  replace Z := c_Z Z hW 20
  refine c_putR Z (idx := 37) (ss := 13) (zmU (j := 17) rfl (by decide)) (by decide) (by decide) rfl (by decide +kernel) (Or.inr ⟨rfl, hin, rfl⟩) (by decide +kernel) ?_
  refine zblq Z rfl [(.aload 0, 1)] (S' := (56, [(0, .inr (.inr (some (2, 1)))), (1, .inl (1 : Int32))], [.inr (.inr (some (2, 1)))], _)) (b := true) (by decide +kernel) rfl rfl ?_
  refine c_new (n := 2) hW hs rfl (kk := 8) (i := 1) rfl Z (by decide) lk2_41 ist_8 ini_8 ⟨by exact Nat.le_of_ble_eq_true rfl, by exact Nat.le_of_ble_eq_true rfl⟩ (by decide +kernel) ?_
  replace Z := c_Z Z hW 21
  refine zblq Z rfl [(.dup, 1)] (S' := (60, [(0, .inr (.inr (some (2, 1)))), (1, .inl (1 : Int32))], [.inr (.inr (some (8, 1))), .inr (.inr (some (8, 1))), .inr (.inr (some (2, 1)))], _)) (b := true) (by decide +kernel) rfl rfl ?_
  refine c_call (n := 3) hW hs rfl (by decide +kernel) Z (as := []) (st := [.inr (.inr (some (8, 1))), .inr (.inr (some (2, 1)))]) (mc := 6) (ms := 28) (ct8_1 hW _) ho1 ho2 cwi2_43 mi8_in rfl rfl ⟨by exact Nat.le_of_ble_eq_true rfl, by exact Nat.le_of_ble_eq_true rfl⟩ rfl (by decide +kernel) ⟨by exact Nat.le_of_ble_eq_true rfl, by exact Nat.le_of_ble_eq_true rfl⟩ ?_
  replace Z := c_Z Z hW 27
  refine c_putR Z (idx := 44) (ss := 15) (zmU (j := 17) rfl (by decide)) (by decide) (by decide) rfl (by decide +kernel) (Or.inr ⟨rfl, hin, rfl⟩) (by decide +kernel) ?_
  refine zblq Z rfl [(.aload 0, 1), (.iconst 8, 2)] (S' := (69, [(0, .inr (.inr (some (2, 1)))), (1, .inl (1 : Int32))], [.inl (8 : Int32), .inr (.inr (some (2, 1)))], _)) (b := true) (by decide +kernel) rfl rfl ?_
  refine c_newa (n := 9) hW hs rfl (kk := 317) (i := 1) rfl Z (Or.inl ⟨rfl, rfl⟩) rfl acl_0 (by decide) ⟨by exact Nat.le_of_ble_eq_true rfl, by exact Nat.le_of_ble_eq_true rfl⟩ (by decide +kernel) ?_
  replace Z := c_Z Z hW 28
  refine c_putR Z (idx := 50) (ss := 17) (zmU (j := 17) rfl (by decide)) (by decide) (by decide) rfl (by decide +kernel) (Or.inr ⟨rfl, hin, rfl⟩) (by decide +kernel) ?_
  refine zblq Z rfl [(.aload 0, 1), (.iload 1, 1)] (S' := (76, [(0, .inr (.inr (some (2, 1)))), (1, .inl (1 : Int32))], [.inl (1 : Int32), .inr (.inr (some (2, 1)))], _)) (b := true) (by decide +kernel) rfl rfl ?_
  refine c_putF Z (idx := 53) (ss := 0) (zmU (j := 17) rfl (by decide)) (by decide) (by decide) rfl (by decide +kernel) ⟨rfl, hin, rfl⟩ (by decide +kernel) ?_
  refine zblq Z rfl [(.aload 0, 1)] (S' := (80, [(0, .inr (.inr (some (2, 1)))), (1, .inl (1 : Int32))], [.inr (.inr (some (2, 1)))], _)) (b := true) (by decide +kernel) rfl rfl ?_
  refine c_getR Z (idx := 30) (ss := 12) (r := (312, 1)) (zmU (j := 17) rfl (by decide)) (by decide) (by decide) rfl (by decide +kernel) rfl (by decide +kernel) ?_
  refine zblq Z rfl [(.iconst 16, 2)] (S' := (85, [(0, .inr (.inr (some (2, 1)))), (1, .inl (1 : Int32))], [.inl (16 : Int32), .inr (.inr (some (312, 1)))], _)) (b := true) (by decide +kernel) rfl rfl ?_
  refine zcallS Z (as := [.inr (.inr (some (312, 1))), .inl (16 : Int32)]) (st := []) (c_fill (zGt_ok hW _) (zmU (j := 18) rfl (by decide)) rfl (by decide)) cwi2_56 mJ7_fill_in rfl ⟨by exact Nat.le_of_ble_eq_true rfl, by exact Nat.le_of_ble_eq_true rfl⟩ rfl (by decide +kernel) ⟨by exact Nat.le_of_ble_eq_true rfl, by exact Nat.le_of_ble_eq_true rfl⟩ ?_
  exact zret_c Z hA hE (by decide +kernel)
def mk9_2 (M : zM) : zM := M
set_option maxRecDepth 100000 in
theorem ct9_2 {l : Launch} {D : va_G} {ad : zR → Nat} {ca : Nat → ClassId} {A : Nat → Prop} {base : Nat} (hW : zWh zUC base ad A) (M : zM) : zMetC l yX9_init cX9_init 1 1 0 0 12 [.inr (.inr (some (9, 2)))] (base + 31) (zGt zUC D ad ca A 31) M (zGt zUC D ad ca A 31) (mk9_2 M) := by
  refine zMetC_of (zGt_ok hW _) rfl tbK9_ok rfl rfl (by decide +kernel) (Nat.le_of_ble_eq_true rfl) (fun X _ Z hA hE => ?_)
  obtain ⟨p, l', e, R, s, m, args, below, meth, c, Q⟩ := X
  obtain ⟨hR, -, hin, hs, ho1, ho2⟩ := id hA
  subst hR
  refine zblq Z rfl [(.aload 0, 1)] (S' := (1, [(0, .inr (.inr (some (9, 2))))], [.inr (.inr (some (9, 2)))], _)) (b := true) (by decide +kernel) rfl rfl ?_
  refine z_obj Z ol9_1 ol_in ol_cd ⟨by exact Nat.le_of_ble_eq_true rfl, by exact Nat.le_of_ble_eq_true rfl⟩ (by decide +kernel) ?_
  exact zret_c Z hA hE (by decide +kernel)
def mk9_18 (M : zM) : zM := M
set_option maxRecDepth 100000 in
theorem ct9_18 {l : Launch} {D : va_G} {ad : zR → Nat} {ca : Nat → ClassId} {A : Nat → Prop} {base : Nat} (hW : zWh zUC base ad A) (M : zM) : zMetC l yX9_init cX9_init 1 1 0 0 12 [.inr (.inr (some (9, 18)))] (base + 35) (zGt zUC D ad ca A 35) M (zGt zUC D ad ca A 35) (mk9_18 M) := by
  refine zMetC_of (zGt_ok hW _) rfl tbK9_ok rfl rfl (by decide +kernel) (Nat.le_of_ble_eq_true rfl) (fun X _ Z hA hE => ?_)
  obtain ⟨p, l', e, R, s, m, args, below, meth, c, Q⟩ := X
  obtain ⟨hR, -, hin, hs, ho1, ho2⟩ := id hA
  subst hR
  refine zblq Z rfl [(.aload 0, 1)] (S' := (1, [(0, .inr (.inr (some (9, 18))))], [.inr (.inr (some (9, 18)))], _)) (b := true) (by decide +kernel) rfl rfl ?_
  refine z_obj Z ol9_1 ol_in ol_cd ⟨by exact Nat.le_of_ble_eq_true rfl, by exact Nat.le_of_ble_eq_true rfl⟩ (by decide +kernel) ?_
  exact zret_c Z hA hE (by decide +kernel)
def mk9_19 (M : zM) : zM := M
set_option maxRecDepth 100000 in
theorem ct9_19 {l : Launch} {D : va_G} {ad : zR → Nat} {ca : Nat → ClassId} {A : Nat → Prop} {base : Nat} (hW : zWh zUC base ad A) (M : zM) : zMetC l yX9_init cX9_init 1 1 0 0 12 [.inr (.inr (some (9, 19)))] (base + 36) (zGt zUC D ad ca A 36) M (zGt zUC D ad ca A 36) (mk9_19 M) := by
  refine zMetC_of (zGt_ok hW _) rfl tbK9_ok rfl rfl (by decide +kernel) (Nat.le_of_ble_eq_true rfl) (fun X _ Z hA hE => ?_)
  obtain ⟨p, l', e, R, s, m, args, below, meth, c, Q⟩ := X
  obtain ⟨hR, -, hin, hs, ho1, ho2⟩ := id hA
  subst hR
  refine zblq Z rfl [(.aload 0, 1)] (S' := (1, [(0, .inr (.inr (some (9, 19))))], [.inr (.inr (some (9, 19)))], _)) (b := true) (by decide +kernel) rfl rfl ?_
  refine z_obj Z ol9_1 ol_in ol_cd ⟨by exact Nat.le_of_ble_eq_true rfl, by exact Nat.le_of_ble_eq_true rfl⟩ (by decide +kernel) ?_
  exact zret_c Z hA hE (by decide +kernel)
def mk9_20 (M : zM) : zM := M
set_option maxRecDepth 100000 in
theorem ct9_20 {l : Launch} {D : va_G} {ad : zR → Nat} {ca : Nat → ClassId} {A : Nat → Prop} {base : Nat} (hW : zWh zUC base ad A) (M : zM) : zMetC l yX9_init cX9_init 1 1 0 0 12 [.inr (.inr (some (9, 20)))] (base + 37) (zGt zUC D ad ca A 37) M (zGt zUC D ad ca A 37) (mk9_20 M) := by
  refine zMetC_of (zGt_ok hW _) rfl tbK9_ok rfl rfl (by decide +kernel) (Nat.le_of_ble_eq_true rfl) (fun X _ Z hA hE => ?_)
  obtain ⟨p, l', e, R, s, m, args, below, meth, c, Q⟩ := X
  obtain ⟨hR, -, hin, hs, ho1, ho2⟩ := id hA
  subst hR
  refine zblq Z rfl [(.aload 0, 1)] (S' := (1, [(0, .inr (.inr (some (9, 20))))], [.inr (.inr (some (9, 20)))], _)) (b := true) (by decide +kernel) rfl rfl ?_
  refine z_obj Z ol9_1 ol_in ol_cd ⟨by exact Nat.le_of_ble_eq_true rfl, by exact Nat.le_of_ble_eq_true rfl⟩ (by decide +kernel) ?_
  exact zret_c Z hA hE (by decide +kernel)
def mk9_21 (M : zM) : zM := M
set_option maxRecDepth 100000 in
theorem ct9_21 {l : Launch} {D : va_G} {ad : zR → Nat} {ca : Nat → ClassId} {A : Nat → Prop} {base : Nat} (hW : zWh zUC base ad A) (M : zM) : zMetC l yX9_init cX9_init 1 1 0 0 12 [.inr (.inr (some (9, 21)))] (base + 38) (zGt zUC D ad ca A 38) M (zGt zUC D ad ca A 38) (mk9_21 M) := by
  refine zMetC_of (zGt_ok hW _) rfl tbK9_ok rfl rfl (by decide +kernel) (Nat.le_of_ble_eq_true rfl) (fun X _ Z hA hE => ?_)
  obtain ⟨p, l', e, R, s, m, args, below, meth, c, Q⟩ := X
  obtain ⟨hR, -, hin, hs, ho1, ho2⟩ := id hA
  subst hR
  refine zblq Z rfl [(.aload 0, 1)] (S' := (1, [(0, .inr (.inr (some (9, 21))))], [.inr (.inr (some (9, 21)))], _)) (b := true) (by decide +kernel) rfl rfl ?_
  refine z_obj Z ol9_1 ol_in ol_cd ⟨by exact Nat.le_of_ble_eq_true rfl, by exact Nat.le_of_ble_eq_true rfl⟩ (by decide +kernel) ?_
  exact zret_c Z hA hE (by decide +kernel)
def mk8_2 (M : zM) : zM := zwF (mk9_21 (zclr (zwF (mk9_20 (zclr (zwF (mk9_19 (zclr (zwF (mk9_18 (zclr (zwF (zclr (zwF (zclr M 900 2) 8 2 0 (900, 2)) 901 2) 8 2 1 (901, 2)) 9 18)) 901 2 0 (9, 18)) 9 19)) 901 2 1 (9, 19)) 9 20)) 901 2 2 (9, 20)) 9 21)) 901 2 3 (9, 21)
set_option maxRecDepth 100000 in
theorem ct8_2 {l : Launch} {D : va_G} {ad : zR → Nat} {ca : Nat → ClassId} {A : Nat → Prop} {base : Nat} (hW : zWh zUC base ad A) (M : zM) : zMetC l yX8_init cX8_init 2 2 6 28 32 [.inr (.inr (some (8, 2)))] (base + 32) (zGt zUC D ad ca A 32) M (zGt zUC D ad ca A 38) (mk8_2 M) := by
  refine zMetC_of (zGt_ok hW _) rfl tbK8_ok rfl rfl (by decide +kernel) (Nat.le_of_ble_eq_true rfl) (fun X _ Z hA hE => ?_)
  obtain ⟨p, l', e, R, s, m, args, below, meth, c, Q⟩ := X
  obtain ⟨hR, -, hin, hs, ho1, ho2⟩ := id hA
  subst hR
  refine zblq Z rfl [(.aload 0, 1)] (S' := (1, [(0, .inr (.inr (some (8, 2))))], [.inr (.inr (some (8, 2)))], _)) (b := true) (by decide +kernel) rfl rfl ?_
  refine z_obj Z ol8_1 ol_in ol_cd ⟨by exact Nat.le_of_ble_eq_true rfl, by exact Nat.le_of_ble_eq_true rfl⟩ (by decide +kernel) ?_
  refine zblq Z rfl [(.aload 0, 1), (.iconst 4, 1)] (S' := (6, [(0, .inr (.inr (some (8, 2))))], [.inl (4 : Int32), .inr (.inr (some (8, 2)))], _)) (b := true) (by decide +kernel) rfl rfl ?_
  refine c_newa (n := 0) hW hs rfl (kk := 900) (i := 2) rfl Z (Or.inl ⟨rfl, rfl⟩) rfl acl_0 (by decide) ⟨by exact Nat.le_of_ble_eq_true rfl, by exact Nat.le_of_ble_eq_true rfl⟩ (by decide +kernel) ?_
  replace Z := c_Z Z hW 33
  refine c_putR Z (idx := 9) (ss := 0) (zmU (j := 31) rfl (by decide)) (by decide) (by decide) rfl (by decide +kernel) (Or.inr ⟨rfl, hin, rfl⟩) (by decide +kernel) ?_
  refine zblq Z rfl [(.aload 0, 1), (.iconst 4, 1)] (S' := (13, [(0, .inr (.inr (some (8, 2))))], [.inl (4 : Int32), .inr (.inr (some (8, 2)))], _)) (b := true) (by decide +kernel) rfl rfl ?_
  refine c_newq (n := 1) hW hs rfl (kk := 901) (i := 2) (C0 := "EarField$Sum") rfl Z (Or.inr ⟨rfl, rfl⟩) rfl lk8_13 ho2 (by decide) ⟨by exact Nat.le_of_ble_eq_true rfl, by exact Nat.le_of_ble_eq_true rfl⟩ (by decide +kernel) ?_
  replace Z := c_Z Z hW 34
  refine c_putR Z (idx := 15) (ss := 1) (zmU (j := 31) rfl (by decide)) (by decide) (by decide) rfl (by decide +kernel) (Or.inr ⟨rfl, hin, rfl⟩) (by decide +kernel) ?_
  refine zblq Z rfl [(.iconst 0, 1), (.istore 1, 1), (.iload 1, 1), (.iconst 4, 1)] (S' := (23, [(0, .inr (.inr (some (8, 2)))), (1, .inl (0 : Int32))], [.inl (4 : Int32), .inl (0 : Int32)], _)) (b := true) (by decide +kernel) rfl rfl ?_
  refine zic_ge Z (off := 22) (tgt := 45) (by decide +kernel) (by decide) (fun h => absurd h (by decide)) (fun _ => ?_)
  refine zblq Z rfl [(.aload 0, 1)] (S' := (27, [(0, .inr (.inr (some (8, 2)))), (1, .inl (0 : Int32))], [.inr (.inr (some (8, 2)))], _)) (b := true) (by decide +kernel) rfl rfl ?_
  refine c_getR Z (idx := 15) (ss := 1) (r := (901, 2)) (zmU (j := 31) rfl (by decide)) (by decide) (by decide) rfl (by decide +kernel) rfl (by decide +kernel) ?_
  refine zblq Z rfl [(.iload 1, 1)] (S' := (31, [(0, .inr (.inr (some (8, 2)))), (1, .inl (0 : Int32))], [.inl (0 : Int32), .inr (.inr (some (901, 2)))], _)) (b := true) (by decide +kernel) rfl rfl ?_
  refine c_new (n := 2) hW hs rfl (kk := 9) (i := 18) rfl Z (by decide) lk8_13 ist_9 ini_9 ⟨by exact Nat.le_of_ble_eq_true rfl, by exact Nat.le_of_ble_eq_true rfl⟩ (by decide +kernel) ?_
  replace Z := c_Z Z hW 35
  refine zblq Z rfl [(.dup, 1)] (S' := (35, [(0, .inr (.inr (some (8, 2)))), (1, .inl (0 : Int32))], [.inr (.inr (some (9, 18))), .inr (.inr (some (9, 18))), .inl (0 : Int32), .inr (.inr (some (901, 2)))], _)) (b := true) (by decide +kernel) rfl rfl ?_
  refine c_call (n := 3) hW hs rfl (by decide +kernel) Z (as := []) (st := [.inr (.inr (some (9, 18))), .inl (0 : Int32), .inr (.inr (some (901, 2)))]) (mc := 0) (ms := 0) (ct9_18 hW _) ho1 ho2 cwi8_19 mi9_in rfl rfl ⟨by exact Nat.le_of_ble_eq_true rfl, by exact Nat.le_of_ble_eq_true rfl⟩ rfl (by decide +kernel) ⟨by exact Nat.le_of_ble_eq_true rfl, by exact Nat.le_of_ble_eq_true rfl⟩ ?_
  replace Z := c_Z Z hW 35
  refine c_aast Z (t := 3) (jn := 0) (zmU (j := 33) rfl (by decide)) (zmU (j := 34) rfl (by decide)) ⟨rfl, Or.inr ⟨rfl, rfl⟩⟩ (by decide) (by decide) (by decide +kernel) ?_
  refine zblq Z rfl [(.iinc 1 1, 3), (.ldc 21, 3), (.iload 1, 1), (.iconst 4, 1)] (S' := (23, [(0, .inr (.inr (some (8, 2)))), (1, .inl (1 : Int32))], [.inl (4 : Int32), .inl (1 : Int32)], _)) (b := true) (by decide +kernel) rfl rfl ?_
  refine zic_ge Z (off := 22) (tgt := 45) (by decide +kernel) (by decide) (fun h => absurd h (by decide)) (fun _ => ?_)
  refine zblq Z rfl [(.aload 0, 1)] (S' := (27, [(0, .inr (.inr (some (8, 2)))), (1, .inl (1 : Int32))], [.inr (.inr (some (8, 2)))], _)) (b := true) (by decide +kernel) rfl rfl ?_
  refine c_getR Z (idx := 15) (ss := 1) (r := (901, 2)) (zmU (j := 31) rfl (by decide)) (by decide) (by decide) rfl (by decide +kernel) rfl (by decide +kernel) ?_
  refine zblq Z rfl [(.iload 1, 1)] (S' := (31, [(0, .inr (.inr (some (8, 2)))), (1, .inl (1 : Int32))], [.inl (1 : Int32), .inr (.inr (some (901, 2)))], _)) (b := true) (by decide +kernel) rfl rfl ?_
  refine c_new (n := 3) hW hs rfl (kk := 9) (i := 19) rfl Z (by decide) lk8_13 ist_9 ini_9 ⟨by exact Nat.le_of_ble_eq_true rfl, by exact Nat.le_of_ble_eq_true rfl⟩ (by decide +kernel) ?_
  replace Z := c_Z Z hW 36
  refine zblq Z rfl [(.dup, 1)] (S' := (35, [(0, .inr (.inr (some (8, 2)))), (1, .inl (1 : Int32))], [.inr (.inr (some (9, 19))), .inr (.inr (some (9, 19))), .inl (1 : Int32), .inr (.inr (some (901, 2)))], _)) (b := true) (by decide +kernel) rfl rfl ?_
  refine c_call (n := 4) hW hs rfl (by decide +kernel) Z (as := []) (st := [.inr (.inr (some (9, 19))), .inl (1 : Int32), .inr (.inr (some (901, 2)))]) (mc := 0) (ms := 0) (ct9_19 hW _) ho1 ho2 cwi8_19 mi9_in rfl rfl ⟨by exact Nat.le_of_ble_eq_true rfl, by exact Nat.le_of_ble_eq_true rfl⟩ rfl (by decide +kernel) ⟨by exact Nat.le_of_ble_eq_true rfl, by exact Nat.le_of_ble_eq_true rfl⟩ ?_
  replace Z := c_Z Z hW 36
  refine c_aast Z (t := 3) (jn := 1) (zmU (j := 33) rfl (by decide)) (zmU (j := 35) rfl (by decide)) ⟨rfl, Or.inr ⟨rfl, rfl⟩⟩ (by decide) (by decide) (by decide +kernel) ?_
  refine zblq Z rfl [(.iinc 1 1, 3), (.ldc 21, 3), (.iload 1, 1), (.iconst 4, 1)] (S' := (23, [(0, .inr (.inr (some (8, 2)))), (1, .inl (2 : Int32))], [.inl (4 : Int32), .inl (2 : Int32)], _)) (b := true) (by decide +kernel) rfl rfl ?_
  refine zic_ge Z (off := 22) (tgt := 45) (by decide +kernel) (by decide) (fun h => absurd h (by decide)) (fun _ => ?_)
  refine zblq Z rfl [(.aload 0, 1)] (S' := (27, [(0, .inr (.inr (some (8, 2)))), (1, .inl (2 : Int32))], [.inr (.inr (some (8, 2)))], _)) (b := true) (by decide +kernel) rfl rfl ?_
  refine c_getR Z (idx := 15) (ss := 1) (r := (901, 2)) (zmU (j := 31) rfl (by decide)) (by decide) (by decide) rfl (by decide +kernel) rfl (by decide +kernel) ?_
  refine zblq Z rfl [(.iload 1, 1)] (S' := (31, [(0, .inr (.inr (some (8, 2)))), (1, .inl (2 : Int32))], [.inl (2 : Int32), .inr (.inr (some (901, 2)))], _)) (b := true) (by decide +kernel) rfl rfl ?_
  refine c_new (n := 4) hW hs rfl (kk := 9) (i := 20) rfl Z (by decide) lk8_13 ist_9 ini_9 ⟨by exact Nat.le_of_ble_eq_true rfl, by exact Nat.le_of_ble_eq_true rfl⟩ (by decide +kernel) ?_
  replace Z := c_Z Z hW 37
  refine zblq Z rfl [(.dup, 1)] (S' := (35, [(0, .inr (.inr (some (8, 2)))), (1, .inl (2 : Int32))], [.inr (.inr (some (9, 20))), .inr (.inr (some (9, 20))), .inl (2 : Int32), .inr (.inr (some (901, 2)))], _)) (b := true) (by decide +kernel) rfl rfl ?_
  refine c_call (n := 5) hW hs rfl (by decide +kernel) Z (as := []) (st := [.inr (.inr (some (9, 20))), .inl (2 : Int32), .inr (.inr (some (901, 2)))]) (mc := 0) (ms := 0) (ct9_20 hW _) ho1 ho2 cwi8_19 mi9_in rfl rfl ⟨by exact Nat.le_of_ble_eq_true rfl, by exact Nat.le_of_ble_eq_true rfl⟩ rfl (by decide +kernel) ⟨by exact Nat.le_of_ble_eq_true rfl, by exact Nat.le_of_ble_eq_true rfl⟩ ?_
  replace Z := c_Z Z hW 37
  refine c_aast Z (t := 3) (jn := 2) (zmU (j := 33) rfl (by decide)) (zmU (j := 36) rfl (by decide)) ⟨rfl, Or.inr ⟨rfl, rfl⟩⟩ (by decide) (by decide) (by decide +kernel) ?_
  refine zblq Z rfl [(.iinc 1 1, 3), (.ldc 21, 3), (.iload 1, 1), (.iconst 4, 1)] (S' := (23, [(0, .inr (.inr (some (8, 2)))), (1, .inl (3 : Int32))], [.inl (4 : Int32), .inl (3 : Int32)], _)) (b := true) (by decide +kernel) rfl rfl ?_
  refine zic_ge Z (off := 22) (tgt := 45) (by decide +kernel) (by decide) (fun h => absurd h (by decide)) (fun _ => ?_)
  refine zblq Z rfl [(.aload 0, 1)] (S' := (27, [(0, .inr (.inr (some (8, 2)))), (1, .inl (3 : Int32))], [.inr (.inr (some (8, 2)))], _)) (b := true) (by decide +kernel) rfl rfl ?_
  refine c_getR Z (idx := 15) (ss := 1) (r := (901, 2)) (zmU (j := 31) rfl (by decide)) (by decide) (by decide) rfl (by decide +kernel) rfl (by decide +kernel) ?_
  refine zblq Z rfl [(.iload 1, 1)] (S' := (31, [(0, .inr (.inr (some (8, 2)))), (1, .inl (3 : Int32))], [.inl (3 : Int32), .inr (.inr (some (901, 2)))], _)) (b := true) (by decide +kernel) rfl rfl ?_
  refine c_new (n := 5) hW hs rfl (kk := 9) (i := 21) rfl Z (by decide) lk8_13 ist_9 ini_9 ⟨by exact Nat.le_of_ble_eq_true rfl, by exact Nat.le_of_ble_eq_true rfl⟩ (by decide +kernel) ?_
  replace Z := c_Z Z hW 38
  refine zblq Z rfl [(.dup, 1)] (S' := (35, [(0, .inr (.inr (some (8, 2)))), (1, .inl (3 : Int32))], [.inr (.inr (some (9, 21))), .inr (.inr (some (9, 21))), .inl (3 : Int32), .inr (.inr (some (901, 2)))], _)) (b := true) (by decide +kernel) rfl rfl ?_
  refine c_call (n := 6) hW hs rfl (by decide +kernel) Z (as := []) (st := [.inr (.inr (some (9, 21))), .inl (3 : Int32), .inr (.inr (some (901, 2)))]) (mc := 0) (ms := 0) (ct9_21 hW _) ho1 ho2 cwi8_19 mi9_in rfl rfl ⟨by exact Nat.le_of_ble_eq_true rfl, by exact Nat.le_of_ble_eq_true rfl⟩ rfl (by decide +kernel) ⟨by exact Nat.le_of_ble_eq_true rfl, by exact Nat.le_of_ble_eq_true rfl⟩ ?_
  replace Z := c_Z Z hW 38
  refine c_aast Z (t := 3) (jn := 3) (zmU (j := 33) rfl (by decide)) (zmU (j := 37) rfl (by decide)) ⟨rfl, Or.inr ⟨rfl, rfl⟩⟩ (by decide) (by decide) (by decide +kernel) ?_
  refine zblq Z rfl [(.iinc 1 1, 3), (.ldc 21, 3), (.iload 1, 1), (.iconst 4, 1)] (S' := (23, [(0, .inr (.inr (some (8, 2)))), (1, .inl (4 : Int32))], [.inl (4 : Int32), .inl (4 : Int32)], _)) (b := true) (by decide +kernel) rfl rfl ?_
  refine zic_ge Z (off := 22) (tgt := 45) (by decide +kernel) (by decide) (fun _ => ?_) (fun h => absurd (by decide) h)
  exact zret_c Z hA hE (by decide +kernel)
def mk2_2 (M : zM) : zM := zfl (zwI (zwF (zclr (zwF (mk8_2 (zclr (zwF (mk9_2 (zclr (zwF (zclr (zwI (zwI (zwI (zwI (zwI (zwI M 2 2 3 (1 : Int32)) 2 2 4 (1 : Int32)) 2 2 7 (-1 : Int32)) 2 2 8 (-1 : Int32)) 2 2 10 (16 : Int32)) 2 2 11 (36 : Int32)) 312 2) 2 2 12 (312, 2)) 9 2)) 2 2 13 (9, 2)) 8 2)) 2 2 15 (8, 2)) 317 2) 2 2 17 (317, 2)) 2 2 0 (2 : Int32)) 312 2 (zak 312).2 (16 : Int32)
set_option maxRecDepth 100000 in
theorem ct2_2 {l : Launch} {D : va_G} {ad : zR → Nat} {ca : Nat → ClassId} {A : Nat → Prop} {base : Nat} (hW : zWh zUC base ad A) (M : zM) : zMetC l yX2_init cX2_init 2 3 10 68 53 [.inr (.inr (some (2, 2))), .inl (2 : Int32)] (base + 29) (zGt zUC D ad ca A 29) M (zGt zUC D ad ca A 39) (mk2_2 M) := by
  refine zMetC_of (zGt_ok hW _) rfl tbK2_ok rfl rfl (by decide +kernel) (Nat.le_of_ble_eq_true rfl) (fun X _ Z hA hE => ?_)
  obtain ⟨p, l', e, R, s, m, args, below, meth, c, Q⟩ := X
  obtain ⟨hR, -, hin, hs, ho1, ho2⟩ := id hA
  subst hR
  refine zblq Z rfl [(.aload 0, 1)] (S' := (1, [(0, .inr (.inr (some (2, 2)))), (1, .inl (2 : Int32))], [.inr (.inr (some (2, 2)))], _)) (b := true) (by decide +kernel) rfl rfl ?_
  refine z_obj Z ol2_3 ol_in ol_cd ⟨by exact Nat.le_of_ble_eq_true rfl, by exact Nat.le_of_ble_eq_true rfl⟩ (by decide +kernel) ?_
  refine zblq Z rfl [(.aload 0, 1), (.iconst 1, 1)] (S' := (6, [(0, .inr (.inr (some (2, 2)))), (1, .inl (2 : Int32))], [.inl (1 : Int32), .inr (.inr (some (2, 2)))], _)) (b := true) (by decide +kernel) rfl rfl ?_
  refine c_putI Z (idx := 9) (ss := 3) (zmU (j := 28) rfl (by decide)) (by decide) (by decide) rfl (by decide +kernel) rfl (by decide +kernel) ?_
  refine zblq Z rfl [(.aload 0, 1), (.iconst 1, 1)] (S' := (11, [(0, .inr (.inr (some (2, 2)))), (1, .inl (2 : Int32))], [.inl (1 : Int32), .inr (.inr (some (2, 2)))], _)) (b := true) (by decide +kernel) rfl rfl ?_
  refine c_putI Z (idx := 15) (ss := 4) (zmU (j := 28) rfl (by decide)) (by decide) (by decide) rfl (by decide +kernel) rfl (by decide +kernel) ?_
  refine zblq Z rfl [(.aload 0, 1), (.iconst (-1), 1)] (S' := (16, [(0, .inr (.inr (some (2, 2)))), (1, .inl (2 : Int32))], [.inl (-1 : Int32), .inr (.inr (some (2, 2)))], _)) (b := true) (by decide +kernel) rfl rfl ?_
  refine c_putI Z (idx := 18) (ss := 7) (zmU (j := 28) rfl (by decide)) (by decide) (by decide) rfl (by decide +kernel) rfl (by decide +kernel) ?_
  refine zblq Z rfl [(.aload 0, 1), (.iconst (-1), 1)] (S' := (21, [(0, .inr (.inr (some (2, 2)))), (1, .inl (2 : Int32))], [.inl (-1 : Int32), .inr (.inr (some (2, 2)))], _)) (b := true) (by decide +kernel) rfl rfl ?_
  refine c_putI Z (idx := 21) (ss := 8) (zmU (j := 28) rfl (by decide)) (by decide) (by decide) rfl (by decide +kernel) rfl (by decide +kernel) ?_
  refine zblq Z rfl [(.aload 0, 1), (.iconst 16, 2)] (S' := (27, [(0, .inr (.inr (some (2, 2)))), (1, .inl (2 : Int32))], [.inl (16 : Int32), .inr (.inr (some (2, 2)))], _)) (b := true) (by decide +kernel) rfl rfl ?_
  refine c_putI Z (idx := 24) (ss := 10) (zmU (j := 28) rfl (by decide)) (by decide) (by decide) rfl (by decide +kernel) rfl (by decide +kernel) ?_
  refine zblq Z rfl [(.aload 0, 1), (.iconst 36, 2)] (S' := (33, [(0, .inr (.inr (some (2, 2)))), (1, .inl (2 : Int32))], [.inl (36 : Int32), .inr (.inr (some (2, 2)))], _)) (b := true) (by decide +kernel) rfl rfl ?_
  refine c_putI Z (idx := 27) (ss := 11) (zmU (j := 28) rfl (by decide)) (by decide) (by decide) rfl (by decide +kernel) rfl (by decide +kernel) ?_
  refine zblq Z rfl [(.aload 0, 1), (.iconst 24, 2)] (S' := (39, [(0, .inr (.inr (some (2, 2)))), (1, .inl (2 : Int32))], [.inl (24 : Int32), .inr (.inr (some (2, 2)))], _)) (b := true) (by decide +kernel) rfl rfl ?_
  refine c_newa (n := 0) hW hs rfl (kk := 312) (i := 2) rfl Z (Or.inl ⟨rfl, rfl⟩) rfl acl_0 (by decide) ⟨by exact Nat.le_of_ble_eq_true rfl, by exact Nat.le_of_ble_eq_true rfl⟩ (by decide +kernel) ?_
  replace Z := c_Z Z hW 30
  refine c_putR Z (idx := 30) (ss := 12) (zmU (j := 28) rfl (by decide)) (by decide) (by decide) rfl (by decide +kernel) (Or.inr ⟨rfl, hin, rfl⟩) (by decide +kernel) ?_
  refine zblq Z rfl [(.aload 0, 1)] (S' := (45, [(0, .inr (.inr (some (2, 2)))), (1, .inl (2 : Int32))], [.inr (.inr (some (2, 2)))], _)) (b := true) (by decide +kernel) rfl rfl ?_
  refine c_new (n := 1) hW hs rfl (kk := 9) (i := 2) rfl Z (by decide) lk2_34 ist_9 ini_9 ⟨by exact Nat.le_of_ble_eq_true rfl, by exact Nat.le_of_ble_eq_true rfl⟩ (by decide +kernel) ?_
  replace Z := c_Z Z hW 31
  refine zblq Z rfl [(.dup, 1)] (S' := (49, [(0, .inr (.inr (some (2, 2)))), (1, .inl (2 : Int32))], [.inr (.inr (some (9, 2))), .inr (.inr (some (9, 2))), .inr (.inr (some (2, 2)))], _)) (b := true) (by decide +kernel) rfl rfl ?_
  refine c_call (n := 2) hW hs rfl (by decide +kernel) Z (as := []) (st := [.inr (.inr (some (9, 2))), .inr (.inr (some (2, 2)))]) (mc := 0) (ms := 0) (ct9_2 hW _) ho1 ho2 cwi2_36 mi9_in rfl rfl ⟨by exact Nat.le_of_ble_eq_true rfl, by exact Nat.le_of_ble_eq_true rfl⟩ rfl (by decide +kernel) ⟨by exact Nat.le_of_ble_eq_true rfl, by exact Nat.le_of_ble_eq_true rfl⟩ ?_
  replace Z := c_Z Z hW 31
  refine c_putR Z (idx := 37) (ss := 13) (zmU (j := 28) rfl (by decide)) (by decide) (by decide) rfl (by decide +kernel) (Or.inr ⟨rfl, hin, rfl⟩) (by decide +kernel) ?_
  refine zblq Z rfl [(.aload 0, 1)] (S' := (56, [(0, .inr (.inr (some (2, 2)))), (1, .inl (2 : Int32))], [.inr (.inr (some (2, 2)))], _)) (b := true) (by decide +kernel) rfl rfl ?_
  refine c_new (n := 2) hW hs rfl (kk := 8) (i := 2) rfl Z (by decide) lk2_41 ist_8 ini_8 ⟨by exact Nat.le_of_ble_eq_true rfl, by exact Nat.le_of_ble_eq_true rfl⟩ (by decide +kernel) ?_
  replace Z := c_Z Z hW 32
  refine zblq Z rfl [(.dup, 1)] (S' := (60, [(0, .inr (.inr (some (2, 2)))), (1, .inl (2 : Int32))], [.inr (.inr (some (8, 2))), .inr (.inr (some (8, 2))), .inr (.inr (some (2, 2)))], _)) (b := true) (by decide +kernel) rfl rfl ?_
  refine c_call (n := 3) hW hs rfl (by decide +kernel) Z (as := []) (st := [.inr (.inr (some (8, 2))), .inr (.inr (some (2, 2)))]) (mc := 6) (ms := 28) (ct8_2 hW _) ho1 ho2 cwi2_43 mi8_in rfl rfl ⟨by exact Nat.le_of_ble_eq_true rfl, by exact Nat.le_of_ble_eq_true rfl⟩ rfl (by decide +kernel) ⟨by exact Nat.le_of_ble_eq_true rfl, by exact Nat.le_of_ble_eq_true rfl⟩ ?_
  replace Z := c_Z Z hW 38
  refine c_putR Z (idx := 44) (ss := 15) (zmU (j := 28) rfl (by decide)) (by decide) (by decide) rfl (by decide +kernel) (Or.inr ⟨rfl, hin, rfl⟩) (by decide +kernel) ?_
  refine zblq Z rfl [(.aload 0, 1), (.iconst 8, 2)] (S' := (69, [(0, .inr (.inr (some (2, 2)))), (1, .inl (2 : Int32))], [.inl (8 : Int32), .inr (.inr (some (2, 2)))], _)) (b := true) (by decide +kernel) rfl rfl ?_
  refine c_newa (n := 9) hW hs rfl (kk := 317) (i := 2) rfl Z (Or.inl ⟨rfl, rfl⟩) rfl acl_0 (by decide) ⟨by exact Nat.le_of_ble_eq_true rfl, by exact Nat.le_of_ble_eq_true rfl⟩ (by decide +kernel) ?_
  replace Z := c_Z Z hW 39
  refine c_putR Z (idx := 50) (ss := 17) (zmU (j := 28) rfl (by decide)) (by decide) (by decide) rfl (by decide +kernel) (Or.inr ⟨rfl, hin, rfl⟩) (by decide +kernel) ?_
  refine zblq Z rfl [(.aload 0, 1), (.iload 1, 1)] (S' := (76, [(0, .inr (.inr (some (2, 2)))), (1, .inl (2 : Int32))], [.inl (2 : Int32), .inr (.inr (some (2, 2)))], _)) (b := true) (by decide +kernel) rfl rfl ?_
  refine c_putF Z (idx := 53) (ss := 0) (zmU (j := 28) rfl (by decide)) (by decide) (by decide) rfl (by decide +kernel) ⟨rfl, hin, rfl⟩ (by decide +kernel) ?_
  refine zblq Z rfl [(.aload 0, 1)] (S' := (80, [(0, .inr (.inr (some (2, 2)))), (1, .inl (2 : Int32))], [.inr (.inr (some (2, 2)))], _)) (b := true) (by decide +kernel) rfl rfl ?_
  refine c_getR Z (idx := 30) (ss := 12) (r := (312, 2)) (zmU (j := 28) rfl (by decide)) (by decide) (by decide) rfl (by decide +kernel) rfl (by decide +kernel) ?_
  refine zblq Z rfl [(.iconst 16, 2)] (S' := (85, [(0, .inr (.inr (some (2, 2)))), (1, .inl (2 : Int32))], [.inl (16 : Int32), .inr (.inr (some (312, 2)))], _)) (b := true) (by decide +kernel) rfl rfl ?_
  refine zcallS Z (as := [.inr (.inr (some (312, 2))), .inl (16 : Int32)]) (st := []) (c_fill (zGt_ok hW _) (zmU (j := 29) rfl (by decide)) rfl (by decide)) cwi2_56 mJ7_fill_in rfl ⟨by exact Nat.le_of_ble_eq_true rfl, by exact Nat.le_of_ble_eq_true rfl⟩ rfl (by decide +kernel) ⟨by exact Nat.le_of_ble_eq_true rfl, by exact Nat.le_of_ble_eq_true rfl⟩ ?_
  exact zret_c Z hA hE (by decide +kernel)
def mk9_3 (M : zM) : zM := M
set_option maxRecDepth 100000 in
theorem ct9_3 {l : Launch} {D : va_G} {ad : zR → Nat} {ca : Nat → ClassId} {A : Nat → Prop} {base : Nat} (hW : zWh zUC base ad A) (M : zM) : zMetC l yX9_init cX9_init 1 1 0 0 12 [.inr (.inr (some (9, 3)))] (base + 42) (zGt zUC D ad ca A 42) M (zGt zUC D ad ca A 42) (mk9_3 M) := by
  refine zMetC_of (zGt_ok hW _) rfl tbK9_ok rfl rfl (by decide +kernel) (Nat.le_of_ble_eq_true rfl) (fun X _ Z hA hE => ?_)
  obtain ⟨p, l', e, R, s, m, args, below, meth, c, Q⟩ := X
  obtain ⟨hR, -, hin, hs, ho1, ho2⟩ := id hA
  subst hR
  refine zblq Z rfl [(.aload 0, 1)] (S' := (1, [(0, .inr (.inr (some (9, 3))))], [.inr (.inr (some (9, 3)))], _)) (b := true) (by decide +kernel) rfl rfl ?_
  refine z_obj Z ol9_1 ol_in ol_cd ⟨by exact Nat.le_of_ble_eq_true rfl, by exact Nat.le_of_ble_eq_true rfl⟩ (by decide +kernel) ?_
  exact zret_c Z hA hE (by decide +kernel)
def mk9_22 (M : zM) : zM := M
set_option maxRecDepth 100000 in
theorem ct9_22 {l : Launch} {D : va_G} {ad : zR → Nat} {ca : Nat → ClassId} {A : Nat → Prop} {base : Nat} (hW : zWh zUC base ad A) (M : zM) : zMetC l yX9_init cX9_init 1 1 0 0 12 [.inr (.inr (some (9, 22)))] (base + 46) (zGt zUC D ad ca A 46) M (zGt zUC D ad ca A 46) (mk9_22 M) := by
  refine zMetC_of (zGt_ok hW _) rfl tbK9_ok rfl rfl (by decide +kernel) (Nat.le_of_ble_eq_true rfl) (fun X _ Z hA hE => ?_)
  obtain ⟨p, l', e, R, s, m, args, below, meth, c, Q⟩ := X
  obtain ⟨hR, -, hin, hs, ho1, ho2⟩ := id hA
  subst hR
  refine zblq Z rfl [(.aload 0, 1)] (S' := (1, [(0, .inr (.inr (some (9, 22))))], [.inr (.inr (some (9, 22)))], _)) (b := true) (by decide +kernel) rfl rfl ?_
  refine z_obj Z ol9_1 ol_in ol_cd ⟨by exact Nat.le_of_ble_eq_true rfl, by exact Nat.le_of_ble_eq_true rfl⟩ (by decide +kernel) ?_
  exact zret_c Z hA hE (by decide +kernel)
def mk9_23 (M : zM) : zM := M
set_option maxRecDepth 100000 in
theorem ct9_23 {l : Launch} {D : va_G} {ad : zR → Nat} {ca : Nat → ClassId} {A : Nat → Prop} {base : Nat} (hW : zWh zUC base ad A) (M : zM) : zMetC l yX9_init cX9_init 1 1 0 0 12 [.inr (.inr (some (9, 23)))] (base + 47) (zGt zUC D ad ca A 47) M (zGt zUC D ad ca A 47) (mk9_23 M) := by
  refine zMetC_of (zGt_ok hW _) rfl tbK9_ok rfl rfl (by decide +kernel) (Nat.le_of_ble_eq_true rfl) (fun X _ Z hA hE => ?_)
  obtain ⟨p, l', e, R, s, m, args, below, meth, c, Q⟩ := X
  obtain ⟨hR, -, hin, hs, ho1, ho2⟩ := id hA
  subst hR
  refine zblq Z rfl [(.aload 0, 1)] (S' := (1, [(0, .inr (.inr (some (9, 23))))], [.inr (.inr (some (9, 23)))], _)) (b := true) (by decide +kernel) rfl rfl ?_
  refine z_obj Z ol9_1 ol_in ol_cd ⟨by exact Nat.le_of_ble_eq_true rfl, by exact Nat.le_of_ble_eq_true rfl⟩ (by decide +kernel) ?_
  exact zret_c Z hA hE (by decide +kernel)
def mk9_24 (M : zM) : zM := M
set_option maxRecDepth 100000 in
theorem ct9_24 {l : Launch} {D : va_G} {ad : zR → Nat} {ca : Nat → ClassId} {A : Nat → Prop} {base : Nat} (hW : zWh zUC base ad A) (M : zM) : zMetC l yX9_init cX9_init 1 1 0 0 12 [.inr (.inr (some (9, 24)))] (base + 48) (zGt zUC D ad ca A 48) M (zGt zUC D ad ca A 48) (mk9_24 M) := by
  refine zMetC_of (zGt_ok hW _) rfl tbK9_ok rfl rfl (by decide +kernel) (Nat.le_of_ble_eq_true rfl) (fun X _ Z hA hE => ?_)
  obtain ⟨p, l', e, R, s, m, args, below, meth, c, Q⟩ := X
  obtain ⟨hR, -, hin, hs, ho1, ho2⟩ := id hA
  subst hR
  refine zblq Z rfl [(.aload 0, 1)] (S' := (1, [(0, .inr (.inr (some (9, 24))))], [.inr (.inr (some (9, 24)))], _)) (b := true) (by decide +kernel) rfl rfl ?_
  refine z_obj Z ol9_1 ol_in ol_cd ⟨by exact Nat.le_of_ble_eq_true rfl, by exact Nat.le_of_ble_eq_true rfl⟩ (by decide +kernel) ?_
  exact zret_c Z hA hE (by decide +kernel)
def mk9_25 (M : zM) : zM := M
set_option maxRecDepth 100000 in
theorem ct9_25 {l : Launch} {D : va_G} {ad : zR → Nat} {ca : Nat → ClassId} {A : Nat → Prop} {base : Nat} (hW : zWh zUC base ad A) (M : zM) : zMetC l yX9_init cX9_init 1 1 0 0 12 [.inr (.inr (some (9, 25)))] (base + 49) (zGt zUC D ad ca A 49) M (zGt zUC D ad ca A 49) (mk9_25 M) := by
  refine zMetC_of (zGt_ok hW _) rfl tbK9_ok rfl rfl (by decide +kernel) (Nat.le_of_ble_eq_true rfl) (fun X _ Z hA hE => ?_)
  obtain ⟨p, l', e, R, s, m, args, below, meth, c, Q⟩ := X
  obtain ⟨hR, -, hin, hs, ho1, ho2⟩ := id hA
  subst hR
  refine zblq Z rfl [(.aload 0, 1)] (S' := (1, [(0, .inr (.inr (some (9, 25))))], [.inr (.inr (some (9, 25)))], _)) (b := true) (by decide +kernel) rfl rfl ?_
  refine z_obj Z ol9_1 ol_in ol_cd ⟨by exact Nat.le_of_ble_eq_true rfl, by exact Nat.le_of_ble_eq_true rfl⟩ (by decide +kernel) ?_
  exact zret_c Z hA hE (by decide +kernel)
def mk8_3 (M : zM) : zM := zwF (mk9_25 (zclr (zwF (mk9_24 (zclr (zwF (mk9_23 (zclr (zwF (mk9_22 (zclr (zwF (zclr (zwF (zclr M 900 3) 8 3 0 (900, 3)) 901 3) 8 3 1 (901, 3)) 9 22)) 901 3 0 (9, 22)) 9 23)) 901 3 1 (9, 23)) 9 24)) 901 3 2 (9, 24)) 9 25)) 901 3 3 (9, 25)
set_option maxRecDepth 100000 in
theorem ct8_3 {l : Launch} {D : va_G} {ad : zR → Nat} {ca : Nat → ClassId} {A : Nat → Prop} {base : Nat} (hW : zWh zUC base ad A) (M : zM) : zMetC l yX8_init cX8_init 2 2 6 28 32 [.inr (.inr (some (8, 3)))] (base + 43) (zGt zUC D ad ca A 43) M (zGt zUC D ad ca A 49) (mk8_3 M) := by
  refine zMetC_of (zGt_ok hW _) rfl tbK8_ok rfl rfl (by decide +kernel) (Nat.le_of_ble_eq_true rfl) (fun X _ Z hA hE => ?_)
  obtain ⟨p, l', e, R, s, m, args, below, meth, c, Q⟩ := X
  obtain ⟨hR, -, hin, hs, ho1, ho2⟩ := id hA
  subst hR
  refine zblq Z rfl [(.aload 0, 1)] (S' := (1, [(0, .inr (.inr (some (8, 3))))], [.inr (.inr (some (8, 3)))], _)) (b := true) (by decide +kernel) rfl rfl ?_
  refine z_obj Z ol8_1 ol_in ol_cd ⟨by exact Nat.le_of_ble_eq_true rfl, by exact Nat.le_of_ble_eq_true rfl⟩ (by decide +kernel) ?_
  refine zblq Z rfl [(.aload 0, 1), (.iconst 4, 1)] (S' := (6, [(0, .inr (.inr (some (8, 3))))], [.inl (4 : Int32), .inr (.inr (some (8, 3)))], _)) (b := true) (by decide +kernel) rfl rfl ?_
  refine c_newa (n := 0) hW hs rfl (kk := 900) (i := 3) rfl Z (Or.inl ⟨rfl, rfl⟩) rfl acl_0 (by decide) ⟨by exact Nat.le_of_ble_eq_true rfl, by exact Nat.le_of_ble_eq_true rfl⟩ (by decide +kernel) ?_
  replace Z := c_Z Z hW 44
  refine c_putR Z (idx := 9) (ss := 0) (zmU (j := 42) rfl (by decide)) (by decide) (by decide) rfl (by decide +kernel) (Or.inr ⟨rfl, hin, rfl⟩) (by decide +kernel) ?_
  refine zblq Z rfl [(.aload 0, 1), (.iconst 4, 1)] (S' := (13, [(0, .inr (.inr (some (8, 3))))], [.inl (4 : Int32), .inr (.inr (some (8, 3)))], _)) (b := true) (by decide +kernel) rfl rfl ?_
  refine c_newq (n := 1) hW hs rfl (kk := 901) (i := 3) (C0 := "EarField$Sum") rfl Z (Or.inr ⟨rfl, rfl⟩) rfl lk8_13 ho2 (by decide) ⟨by exact Nat.le_of_ble_eq_true rfl, by exact Nat.le_of_ble_eq_true rfl⟩ (by decide +kernel) ?_
  replace Z := c_Z Z hW 45
  refine c_putR Z (idx := 15) (ss := 1) (zmU (j := 42) rfl (by decide)) (by decide) (by decide) rfl (by decide +kernel) (Or.inr ⟨rfl, hin, rfl⟩) (by decide +kernel) ?_
  refine zblq Z rfl [(.iconst 0, 1), (.istore 1, 1), (.iload 1, 1), (.iconst 4, 1)] (S' := (23, [(0, .inr (.inr (some (8, 3)))), (1, .inl (0 : Int32))], [.inl (4 : Int32), .inl (0 : Int32)], _)) (b := true) (by decide +kernel) rfl rfl ?_
  refine zic_ge Z (off := 22) (tgt := 45) (by decide +kernel) (by decide) (fun h => absurd h (by decide)) (fun _ => ?_)
  refine zblq Z rfl [(.aload 0, 1)] (S' := (27, [(0, .inr (.inr (some (8, 3)))), (1, .inl (0 : Int32))], [.inr (.inr (some (8, 3)))], _)) (b := true) (by decide +kernel) rfl rfl ?_
  refine c_getR Z (idx := 15) (ss := 1) (r := (901, 3)) (zmU (j := 42) rfl (by decide)) (by decide) (by decide) rfl (by decide +kernel) rfl (by decide +kernel) ?_
  refine zblq Z rfl [(.iload 1, 1)] (S' := (31, [(0, .inr (.inr (some (8, 3)))), (1, .inl (0 : Int32))], [.inl (0 : Int32), .inr (.inr (some (901, 3)))], _)) (b := true) (by decide +kernel) rfl rfl ?_
  refine c_new (n := 2) hW hs rfl (kk := 9) (i := 22) rfl Z (by decide) lk8_13 ist_9 ini_9 ⟨by exact Nat.le_of_ble_eq_true rfl, by exact Nat.le_of_ble_eq_true rfl⟩ (by decide +kernel) ?_
  replace Z := c_Z Z hW 46
  refine zblq Z rfl [(.dup, 1)] (S' := (35, [(0, .inr (.inr (some (8, 3)))), (1, .inl (0 : Int32))], [.inr (.inr (some (9, 22))), .inr (.inr (some (9, 22))), .inl (0 : Int32), .inr (.inr (some (901, 3)))], _)) (b := true) (by decide +kernel) rfl rfl ?_
  refine c_call (n := 3) hW hs rfl (by decide +kernel) Z (as := []) (st := [.inr (.inr (some (9, 22))), .inl (0 : Int32), .inr (.inr (some (901, 3)))]) (mc := 0) (ms := 0) (ct9_22 hW _) ho1 ho2 cwi8_19 mi9_in rfl rfl ⟨by exact Nat.le_of_ble_eq_true rfl, by exact Nat.le_of_ble_eq_true rfl⟩ rfl (by decide +kernel) ⟨by exact Nat.le_of_ble_eq_true rfl, by exact Nat.le_of_ble_eq_true rfl⟩ ?_
  replace Z := c_Z Z hW 46
  refine c_aast Z (t := 3) (jn := 0) (zmU (j := 44) rfl (by decide)) (zmU (j := 45) rfl (by decide)) ⟨rfl, Or.inr ⟨rfl, rfl⟩⟩ (by decide) (by decide) (by decide +kernel) ?_
  refine zblq Z rfl [(.iinc 1 1, 3), (.ldc 21, 3), (.iload 1, 1), (.iconst 4, 1)] (S' := (23, [(0, .inr (.inr (some (8, 3)))), (1, .inl (1 : Int32))], [.inl (4 : Int32), .inl (1 : Int32)], _)) (b := true) (by decide +kernel) rfl rfl ?_
  refine zic_ge Z (off := 22) (tgt := 45) (by decide +kernel) (by decide) (fun h => absurd h (by decide)) (fun _ => ?_)
  refine zblq Z rfl [(.aload 0, 1)] (S' := (27, [(0, .inr (.inr (some (8, 3)))), (1, .inl (1 : Int32))], [.inr (.inr (some (8, 3)))], _)) (b := true) (by decide +kernel) rfl rfl ?_
  refine c_getR Z (idx := 15) (ss := 1) (r := (901, 3)) (zmU (j := 42) rfl (by decide)) (by decide) (by decide) rfl (by decide +kernel) rfl (by decide +kernel) ?_
  refine zblq Z rfl [(.iload 1, 1)] (S' := (31, [(0, .inr (.inr (some (8, 3)))), (1, .inl (1 : Int32))], [.inl (1 : Int32), .inr (.inr (some (901, 3)))], _)) (b := true) (by decide +kernel) rfl rfl ?_
  refine c_new (n := 3) hW hs rfl (kk := 9) (i := 23) rfl Z (by decide) lk8_13 ist_9 ini_9 ⟨by exact Nat.le_of_ble_eq_true rfl, by exact Nat.le_of_ble_eq_true rfl⟩ (by decide +kernel) ?_
  replace Z := c_Z Z hW 47
  refine zblq Z rfl [(.dup, 1)] (S' := (35, [(0, .inr (.inr (some (8, 3)))), (1, .inl (1 : Int32))], [.inr (.inr (some (9, 23))), .inr (.inr (some (9, 23))), .inl (1 : Int32), .inr (.inr (some (901, 3)))], _)) (b := true) (by decide +kernel) rfl rfl ?_
  refine c_call (n := 4) hW hs rfl (by decide +kernel) Z (as := []) (st := [.inr (.inr (some (9, 23))), .inl (1 : Int32), .inr (.inr (some (901, 3)))]) (mc := 0) (ms := 0) (ct9_23 hW _) ho1 ho2 cwi8_19 mi9_in rfl rfl ⟨by exact Nat.le_of_ble_eq_true rfl, by exact Nat.le_of_ble_eq_true rfl⟩ rfl (by decide +kernel) ⟨by exact Nat.le_of_ble_eq_true rfl, by exact Nat.le_of_ble_eq_true rfl⟩ ?_
  replace Z := c_Z Z hW 47
  refine c_aast Z (t := 3) (jn := 1) (zmU (j := 44) rfl (by decide)) (zmU (j := 46) rfl (by decide)) ⟨rfl, Or.inr ⟨rfl, rfl⟩⟩ (by decide) (by decide) (by decide +kernel) ?_
  refine zblq Z rfl [(.iinc 1 1, 3), (.ldc 21, 3), (.iload 1, 1), (.iconst 4, 1)] (S' := (23, [(0, .inr (.inr (some (8, 3)))), (1, .inl (2 : Int32))], [.inl (4 : Int32), .inl (2 : Int32)], _)) (b := true) (by decide +kernel) rfl rfl ?_
  refine zic_ge Z (off := 22) (tgt := 45) (by decide +kernel) (by decide) (fun h => absurd h (by decide)) (fun _ => ?_)
  refine zblq Z rfl [(.aload 0, 1)] (S' := (27, [(0, .inr (.inr (some (8, 3)))), (1, .inl (2 : Int32))], [.inr (.inr (some (8, 3)))], _)) (b := true) (by decide +kernel) rfl rfl ?_
  refine c_getR Z (idx := 15) (ss := 1) (r := (901, 3)) (zmU (j := 42) rfl (by decide)) (by decide) (by decide) rfl (by decide +kernel) rfl (by decide +kernel) ?_
  refine zblq Z rfl [(.iload 1, 1)] (S' := (31, [(0, .inr (.inr (some (8, 3)))), (1, .inl (2 : Int32))], [.inl (2 : Int32), .inr (.inr (some (901, 3)))], _)) (b := true) (by decide +kernel) rfl rfl ?_
  refine c_new (n := 4) hW hs rfl (kk := 9) (i := 24) rfl Z (by decide) lk8_13 ist_9 ini_9 ⟨by exact Nat.le_of_ble_eq_true rfl, by exact Nat.le_of_ble_eq_true rfl⟩ (by decide +kernel) ?_
  replace Z := c_Z Z hW 48
  refine zblq Z rfl [(.dup, 1)] (S' := (35, [(0, .inr (.inr (some (8, 3)))), (1, .inl (2 : Int32))], [.inr (.inr (some (9, 24))), .inr (.inr (some (9, 24))), .inl (2 : Int32), .inr (.inr (some (901, 3)))], _)) (b := true) (by decide +kernel) rfl rfl ?_
  refine c_call (n := 5) hW hs rfl (by decide +kernel) Z (as := []) (st := [.inr (.inr (some (9, 24))), .inl (2 : Int32), .inr (.inr (some (901, 3)))]) (mc := 0) (ms := 0) (ct9_24 hW _) ho1 ho2 cwi8_19 mi9_in rfl rfl ⟨by exact Nat.le_of_ble_eq_true rfl, by exact Nat.le_of_ble_eq_true rfl⟩ rfl (by decide +kernel) ⟨by exact Nat.le_of_ble_eq_true rfl, by exact Nat.le_of_ble_eq_true rfl⟩ ?_
  replace Z := c_Z Z hW 48
  refine c_aast Z (t := 3) (jn := 2) (zmU (j := 44) rfl (by decide)) (zmU (j := 47) rfl (by decide)) ⟨rfl, Or.inr ⟨rfl, rfl⟩⟩ (by decide) (by decide) (by decide +kernel) ?_
  refine zblq Z rfl [(.iinc 1 1, 3), (.ldc 21, 3), (.iload 1, 1), (.iconst 4, 1)] (S' := (23, [(0, .inr (.inr (some (8, 3)))), (1, .inl (3 : Int32))], [.inl (4 : Int32), .inl (3 : Int32)], _)) (b := true) (by decide +kernel) rfl rfl ?_
  refine zic_ge Z (off := 22) (tgt := 45) (by decide +kernel) (by decide) (fun h => absurd h (by decide)) (fun _ => ?_)
  refine zblq Z rfl [(.aload 0, 1)] (S' := (27, [(0, .inr (.inr (some (8, 3)))), (1, .inl (3 : Int32))], [.inr (.inr (some (8, 3)))], _)) (b := true) (by decide +kernel) rfl rfl ?_
  refine c_getR Z (idx := 15) (ss := 1) (r := (901, 3)) (zmU (j := 42) rfl (by decide)) (by decide) (by decide) rfl (by decide +kernel) rfl (by decide +kernel) ?_
  refine zblq Z rfl [(.iload 1, 1)] (S' := (31, [(0, .inr (.inr (some (8, 3)))), (1, .inl (3 : Int32))], [.inl (3 : Int32), .inr (.inr (some (901, 3)))], _)) (b := true) (by decide +kernel) rfl rfl ?_
  refine c_new (n := 5) hW hs rfl (kk := 9) (i := 25) rfl Z (by decide) lk8_13 ist_9 ini_9 ⟨by exact Nat.le_of_ble_eq_true rfl, by exact Nat.le_of_ble_eq_true rfl⟩ (by decide +kernel) ?_
  replace Z := c_Z Z hW 49
  refine zblq Z rfl [(.dup, 1)] (S' := (35, [(0, .inr (.inr (some (8, 3)))), (1, .inl (3 : Int32))], [.inr (.inr (some (9, 25))), .inr (.inr (some (9, 25))), .inl (3 : Int32), .inr (.inr (some (901, 3)))], _)) (b := true) (by decide +kernel) rfl rfl ?_
  refine c_call (n := 6) hW hs rfl (by decide +kernel) Z (as := []) (st := [.inr (.inr (some (9, 25))), .inl (3 : Int32), .inr (.inr (some (901, 3)))]) (mc := 0) (ms := 0) (ct9_25 hW _) ho1 ho2 cwi8_19 mi9_in rfl rfl ⟨by exact Nat.le_of_ble_eq_true rfl, by exact Nat.le_of_ble_eq_true rfl⟩ rfl (by decide +kernel) ⟨by exact Nat.le_of_ble_eq_true rfl, by exact Nat.le_of_ble_eq_true rfl⟩ ?_
  replace Z := c_Z Z hW 49
  refine c_aast Z (t := 3) (jn := 3) (zmU (j := 44) rfl (by decide)) (zmU (j := 48) rfl (by decide)) ⟨rfl, Or.inr ⟨rfl, rfl⟩⟩ (by decide) (by decide) (by decide +kernel) ?_
  refine zblq Z rfl [(.iinc 1 1, 3), (.ldc 21, 3), (.iload 1, 1), (.iconst 4, 1)] (S' := (23, [(0, .inr (.inr (some (8, 3)))), (1, .inl (4 : Int32))], [.inl (4 : Int32), .inl (4 : Int32)], _)) (b := true) (by decide +kernel) rfl rfl ?_
  refine zic_ge Z (off := 22) (tgt := 45) (by decide +kernel) (by decide) (fun _ => ?_) (fun h => absurd (by decide) h)
  exact zret_c Z hA hE (by decide +kernel)
