def mk8_7 (M : zM) : zM := zwF (mk9_41 (zclr (zwF (mk9_40 (zclr (zwF (mk9_39 (zclr (zwF (mk9_38 (zclr (zwF (zclr (zwF (zclr M 900 7) 8 7 0 (900, 7)) 901 7) 8 7 1 (901, 7)) 9 38)) 901 7 0 (9, 38)) 9 39)) 901 7 1 (9, 39)) 9 40)) 901 7 2 (9, 40)) 9 41)) 901 7 3 (9, 41)
set_option maxRecDepth 100000 in
theorem ct8_7 {l : Launch} {D : va_G} {ad : zR → Nat} {ca : Nat → ClassId} {A : Nat → Prop} {base : Nat} (hW : zWh zUC base ad A) (M : zM) : zMetC l yX8_init cX8_init 2 2 6 28 32 [.inr (.inr (some (8, 7)))] (base + 87) (zGt zUC D ad ca A 87) M (zGt zUC D ad ca A 93) (mk8_7 M) := by
  refine zMetC_of (zGt_ok hW _) rfl tbK8_ok rfl rfl (by decide +kernel) (Nat.le_of_ble_eq_true rfl) (fun X _ Z hA hE => ?_)
  obtain ⟨p, l', e, R, s, m, args, below, meth, c, Q⟩ := X
  obtain ⟨hR, -, hin, hs, ho1, ho2⟩ := id hA
  subst hR
  refine zblq Z rfl [(.aload 0, 1)] (S' := (1, [(0, .inr (.inr (some (8, 7))))], [.inr (.inr (some (8, 7)))], _)) (b := true) (by decide +kernel) rfl rfl ?_
  refine z_obj Z ol8_1 ol_in ol_cd ⟨by exact Nat.le_of_ble_eq_true rfl, by exact Nat.le_of_ble_eq_true rfl⟩ (by decide +kernel) ?_
  refine zblq Z rfl [(.aload 0, 1), (.iconst 4, 1)] (S' := (6, [(0, .inr (.inr (some (8, 7))))], [.inl (4 : Int32), .inr (.inr (some (8, 7)))], _)) (b := true) (by decide +kernel) rfl rfl ?_
  refine c_newa (n := 0) hW hs rfl (kk := 900) (i := 7) rfl Z (Or.inl ⟨rfl, rfl⟩) rfl acl_0 (by decide) ⟨by exact Nat.le_of_ble_eq_true rfl, by exact Nat.le_of_ble_eq_true rfl⟩ (by decide +kernel) ?_
  replace Z := c_Z Z hW 88
  refine c_putR Z (idx := 9) (ss := 0) (zmU (j := 86) rfl (by decide)) (by decide) (by decide) rfl (by decide +kernel) (Or.inr ⟨rfl, hin, rfl⟩) (by decide +kernel) ?_
  refine zblq Z rfl [(.aload 0, 1), (.iconst 4, 1)] (S' := (13, [(0, .inr (.inr (some (8, 7))))], [.inl (4 : Int32), .inr (.inr (some (8, 7)))], _)) (b := true) (by decide +kernel) rfl rfl ?_
  refine c_newq (n := 1) hW hs rfl (kk := 901) (i := 7) (C0 := "EarField$Sum") rfl Z (Or.inr ⟨rfl, rfl⟩) rfl lk8_13 ho2 (by decide) ⟨by exact Nat.le_of_ble_eq_true rfl, by exact Nat.le_of_ble_eq_true rfl⟩ (by decide +kernel) ?_
  replace Z := c_Z Z hW 89
  refine c_putR Z (idx := 15) (ss := 1) (zmU (j := 86) rfl (by decide)) (by decide) (by decide) rfl (by decide +kernel) (Or.inr ⟨rfl, hin, rfl⟩) (by decide +kernel) ?_
  refine zblq Z rfl [(.iconst 0, 1), (.istore 1, 1), (.iload 1, 1), (.iconst 4, 1)] (S' := (23, [(0, .inr (.inr (some (8, 7)))), (1, .inl (0 : Int32))], [.inl (4 : Int32), .inl (0 : Int32)], _)) (b := true) (by decide +kernel) rfl rfl ?_
  refine zic_ge Z (off := 22) (tgt := 45) (by decide +kernel) (by decide) (fun h => absurd h (by decide)) (fun _ => ?_)
  refine zblq Z rfl [(.aload 0, 1)] (S' := (27, [(0, .inr (.inr (some (8, 7)))), (1, .inl (0 : Int32))], [.inr (.inr (some (8, 7)))], _)) (b := true) (by decide +kernel) rfl rfl ?_
  refine c_getR Z (idx := 15) (ss := 1) (r := (901, 7)) (zmU (j := 86) rfl (by decide)) (by decide) (by decide) rfl (by decide +kernel) rfl (by decide +kernel) ?_
  refine zblq Z rfl [(.iload 1, 1)] (S' := (31, [(0, .inr (.inr (some (8, 7)))), (1, .inl (0 : Int32))], [.inl (0 : Int32), .inr (.inr (some (901, 7)))], _)) (b := true) (by decide +kernel) rfl rfl ?_
  refine c_new (n := 2) hW hs rfl (kk := 9) (i := 38) rfl Z (by decide) lk8_13 ist_9 ini_9 ⟨by exact Nat.le_of_ble_eq_true rfl, by exact Nat.le_of_ble_eq_true rfl⟩ (by decide +kernel) ?_
  replace Z := c_Z Z hW 90
  refine zblq Z rfl [(.dup, 1)] (S' := (35, [(0, .inr (.inr (some (8, 7)))), (1, .inl (0 : Int32))], [.inr (.inr (some (9, 38))), .inr (.inr (some (9, 38))), .inl (0 : Int32), .inr (.inr (some (901, 7)))], _)) (b := true) (by decide +kernel) rfl rfl ?_
  refine c_call (n := 3) hW hs rfl (by decide +kernel) Z (as := []) (st := [.inr (.inr (some (9, 38))), .inl (0 : Int32), .inr (.inr (some (901, 7)))]) (mc := 0) (ms := 0) (ct9_38 hW _) ho1 ho2 cwi8_19 mi9_in rfl rfl ⟨by exact Nat.le_of_ble_eq_true rfl, by exact Nat.le_of_ble_eq_true rfl⟩ rfl (by decide +kernel) ⟨by exact Nat.le_of_ble_eq_true rfl, by exact Nat.le_of_ble_eq_true rfl⟩ ?_
  replace Z := c_Z Z hW 90
  refine c_aast Z (t := 3) (jn := 0) (zmU (j := 88) rfl (by decide)) (zmU (j := 89) rfl (by decide)) ⟨rfl, Or.inr ⟨rfl, rfl⟩⟩ (by decide) (by decide) (by decide +kernel) ?_
  refine zblq Z rfl [(.iinc 1 1, 3), (.ldc 21, 3), (.iload 1, 1), (.iconst 4, 1)] (S' := (23, [(0, .inr (.inr (some (8, 7)))), (1, .inl (1 : Int32))], [.inl (4 : Int32), .inl (1 : Int32)], _)) (b := true) (by decide +kernel) rfl rfl ?_
  refine zic_ge Z (off := 22) (tgt := 45) (by decide +kernel) (by decide) (fun h => absurd h (by decide)) (fun _ => ?_)
  refine zblq Z rfl [(.aload 0, 1)] (S' := (27, [(0, .inr (.inr (some (8, 7)))), (1, .inl (1 : Int32))], [.inr (.inr (some (8, 7)))], _)) (b := true) (by decide +kernel) rfl rfl ?_
  refine c_getR Z (idx := 15) (ss := 1) (r := (901, 7)) (zmU (j := 86) rfl (by decide)) (by decide) (by decide) rfl (by decide +kernel) rfl (by decide +kernel) ?_
  refine zblq Z rfl [(.iload 1, 1)] (S' := (31, [(0, .inr (.inr (some (8, 7)))), (1, .inl (1 : Int32))], [.inl (1 : Int32), .inr (.inr (some (901, 7)))], _)) (b := true) (by decide +kernel) rfl rfl ?_
  refine c_new (n := 3) hW hs rfl (kk := 9) (i := 39) rfl Z (by decide) lk8_13 ist_9 ini_9 ⟨by exact Nat.le_of_ble_eq_true rfl, by exact Nat.le_of_ble_eq_true rfl⟩ (by decide +kernel) ?_
  replace Z := c_Z Z hW 91
  refine zblq Z rfl [(.dup, 1)] (S' := (35, [(0, .inr (.inr (some (8, 7)))), (1, .inl (1 : Int32))], [.inr (.inr (some (9, 39))), .inr (.inr (some (9, 39))), .inl (1 : Int32), .inr (.inr (some (901, 7)))], _)) (b := true) (by decide +kernel) rfl rfl ?_
  refine c_call (n := 4) hW hs rfl (by decide +kernel) Z (as := []) (st := [.inr (.inr (some (9, 39))), .inl (1 : Int32), .inr (.inr (some (901, 7)))]) (mc := 0) (ms := 0) (ct9_39 hW _) ho1 ho2 cwi8_19 mi9_in rfl rfl ⟨by exact Nat.le_of_ble_eq_true rfl, by exact Nat.le_of_ble_eq_true rfl⟩ rfl (by decide +kernel) ⟨by exact Nat.le_of_ble_eq_true rfl, by exact Nat.le_of_ble_eq_true rfl⟩ ?_
  replace Z := c_Z Z hW 91
  refine c_aast Z (t := 3) (jn := 1) (zmU (j := 88) rfl (by decide)) (zmU (j := 90) rfl (by decide)) ⟨rfl, Or.inr ⟨rfl, rfl⟩⟩ (by decide) (by decide) (by decide +kernel) ?_
  refine zblq Z rfl [(.iinc 1 1, 3), (.ldc 21, 3), (.iload 1, 1), (.iconst 4, 1)] (S' := (23, [(0, .inr (.inr (some (8, 7)))), (1, .inl (2 : Int32))], [.inl (4 : Int32), .inl (2 : Int32)], _)) (b := true) (by decide +kernel) rfl rfl ?_
  refine zic_ge Z (off := 22) (tgt := 45) (by decide +kernel) (by decide) (fun h => absurd h (by decide)) (fun _ => ?_)
  refine zblq Z rfl [(.aload 0, 1)] (S' := (27, [(0, .inr (.inr (some (8, 7)))), (1, .inl (2 : Int32))], [.inr (.inr (some (8, 7)))], _)) (b := true) (by decide +kernel) rfl rfl ?_
  refine c_getR Z (idx := 15) (ss := 1) (r := (901, 7)) (zmU (j := 86) rfl (by decide)) (by decide) (by decide) rfl (by decide +kernel) rfl (by decide +kernel) ?_
  refine zblq Z rfl [(.iload 1, 1)] (S' := (31, [(0, .inr (.inr (some (8, 7)))), (1, .inl (2 : Int32))], [.inl (2 : Int32), .inr (.inr (some (901, 7)))], _)) (b := true) (by decide +kernel) rfl rfl ?_
  refine c_new (n := 4) hW hs rfl (kk := 9) (i := 40) rfl Z (by decide) lk8_13 ist_9 ini_9 ⟨by exact Nat.le_of_ble_eq_true rfl, by exact Nat.le_of_ble_eq_true rfl⟩ (by decide +kernel) ?_
  replace Z := c_Z Z hW 92
  refine zblq Z rfl [(.dup, 1)] (S' := (35, [(0, .inr (.inr (some (8, 7)))), (1, .inl (2 : Int32))], [.inr (.inr (some (9, 40))), .inr (.inr (some (9, 40))), .inl (2 : Int32), .inr (.inr (some (901, 7)))], _)) (b := true) (by decide +kernel) rfl rfl ?_
  refine c_call (n := 5) hW hs rfl (by decide +kernel) Z (as := []) (st := [.inr (.inr (some (9, 40))), .inl (2 : Int32), .inr (.inr (some (901, 7)))]) (mc := 0) (ms := 0) (ct9_40 hW _) ho1 ho2 cwi8_19 mi9_in rfl rfl ⟨by exact Nat.le_of_ble_eq_true rfl, by exact Nat.le_of_ble_eq_true rfl⟩ rfl (by decide +kernel) ⟨by exact Nat.le_of_ble_eq_true rfl, by exact Nat.le_of_ble_eq_true rfl⟩ ?_
  replace Z := c_Z Z hW 92
  refine c_aast Z (t := 3) (jn := 2) (zmU (j := 88) rfl (by decide)) (zmU (j := 91) rfl (by decide)) ⟨rfl, Or.inr ⟨rfl, rfl⟩⟩ (by decide) (by decide) (by decide +kernel) ?_
  refine zblq Z rfl [(.iinc 1 1, 3), (.ldc 21, 3), (.iload 1, 1), (.iconst 4, 1)] (S' := (23, [(0, .inr (.inr (some (8, 7)))), (1, .inl (3 : Int32))], [.inl (4 : Int32), .inl (3 : Int32)], _)) (b := true) (by decide +kernel) rfl rfl ?_
  refine zic_ge Z (off := 22) (tgt := 45) (by decide +kernel) (by decide) (fun h => absurd h (by decide)) (fun _ => ?_)
  refine zblq Z rfl [(.aload 0, 1)] (S' := (27, [(0, .inr (.inr (some (8, 7)))), (1, .inl (3 : Int32))], [.inr (.inr (some (8, 7)))], _)) (b := true) (by decide +kernel) rfl rfl ?_
  refine c_getR Z (idx := 15) (ss := 1) (r := (901, 7)) (zmU (j := 86) rfl (by decide)) (by decide) (by decide) rfl (by decide +kernel) rfl (by decide +kernel) ?_
  refine zblq Z rfl [(.iload 1, 1)] (S' := (31, [(0, .inr (.inr (some (8, 7)))), (1, .inl (3 : Int32))], [.inl (3 : Int32), .inr (.inr (some (901, 7)))], _)) (b := true) (by decide +kernel) rfl rfl ?_
  refine c_new (n := 5) hW hs rfl (kk := 9) (i := 41) rfl Z (by decide) lk8_13 ist_9 ini_9 ⟨by exact Nat.le_of_ble_eq_true rfl, by exact Nat.le_of_ble_eq_true rfl⟩ (by decide +kernel) ?_
  replace Z := c_Z Z hW 93
  refine zblq Z rfl [(.dup, 1)] (S' := (35, [(0, .inr (.inr (some (8, 7)))), (1, .inl (3 : Int32))], [.inr (.inr (some (9, 41))), .inr (.inr (some (9, 41))), .inl (3 : Int32), .inr (.inr (some (901, 7)))], _)) (b := true) (by decide +kernel) rfl rfl ?_
  refine c_call (n := 6) hW hs rfl (by decide +kernel) Z (as := []) (st := [.inr (.inr (some (9, 41))), .inl (3 : Int32), .inr (.inr (some (901, 7)))]) (mc := 0) (ms := 0) (ct9_41 hW _) ho1 ho2 cwi8_19 mi9_in rfl rfl ⟨by exact Nat.le_of_ble_eq_true rfl, by exact Nat.le_of_ble_eq_true rfl⟩ rfl (by decide +kernel) ⟨by exact Nat.le_of_ble_eq_true rfl, by exact Nat.le_of_ble_eq_true rfl⟩ ?_
  replace Z := c_Z Z hW 93
  refine c_aast Z (t := 3) (jn := 3) (zmU (j := 88) rfl (by decide)) (zmU (j := 92) rfl (by decide)) ⟨rfl, Or.inr ⟨rfl, rfl⟩⟩ (by decide) (by decide) (by decide +kernel) ?_
  refine zblq Z rfl [(.iinc 1 1, 3), (.ldc 21, 3), (.iload 1, 1), (.iconst 4, 1)] (S' := (23, [(0, .inr (.inr (some (8, 7)))), (1, .inl (4 : Int32))], [.inl (4 : Int32), .inl (4 : Int32)], _)) (b := true) (by decide +kernel) rfl rfl ?_
  refine zic_ge Z (off := 22) (tgt := 45) (by decide +kernel) (by decide) (fun _ => ?_) (fun h => absurd (by decide) h)
  exact zret_c Z hA hE (by decide +kernel)
def mk2_7 (M : zM) : zM := zfl (zwI (zwF (zclr (zwF (mk8_7 (zclr (zwF (mk9_7 (zclr (zwF (zclr (zwI (zwI (zwI (zwI (zwI (zwI M 2 7 3 (1 : Int32)) 2 7 4 (1 : Int32)) 2 7 7 (-1 : Int32)) 2 7 8 (-1 : Int32)) 2 7 10 (16 : Int32)) 2 7 11 (36 : Int32)) 312 7) 2 7 12 (312, 7)) 9 7)) 2 7 13 (9, 7)) 8 7)) 2 7 15 (8, 7)) 317 7) 2 7 17 (317, 7)) 2 7 0 (7 : Int32)) 312 7 (zak 312).2 (16 : Int32)
set_option maxRecDepth 100000 in
theorem ct2_7 {l : Launch} {D : va_G} {ad : zR → Nat} {ca : Nat → ClassId} {A : Nat → Prop} {base : Nat} (hW : zWh zUC base ad A) (M : zM) : zMetC l yX2_init cX2_init 2 3 10 68 53 [.inr (.inr (some (2, 7))), .inl (7 : Int32)] (base + 84) (zGt zUC D ad ca A 84) M (zGt zUC D ad ca A 94) (mk2_7 M) := by
  refine zMetC_of (zGt_ok hW _) rfl tbK2_ok rfl rfl (by decide +kernel) (Nat.le_of_ble_eq_true rfl) (fun X _ Z hA hE => ?_)
  obtain ⟨p, l', e, R, s, m, args, below, meth, c, Q⟩ := X
  obtain ⟨hR, -, hin, hs, ho1, ho2⟩ := id hA
  subst hR
  refine zblq Z rfl [(.aload 0, 1)] (S' := (1, [(0, .inr (.inr (some (2, 7)))), (1, .inl (7 : Int32))], [.inr (.inr (some (2, 7)))], _)) (b := true) (by decide +kernel) rfl rfl ?_
  refine z_obj Z ol2_3 ol_in ol_cd ⟨by exact Nat.le_of_ble_eq_true rfl, by exact Nat.le_of_ble_eq_true rfl⟩ (by decide +kernel) ?_
  refine zblq Z rfl [(.aload 0, 1), (.iconst 1, 1)] (S' := (6, [(0, .inr (.inr (some (2, 7)))), (1, .inl (7 : Int32))], [.inl (1 : Int32), .inr (.inr (some (2, 7)))], _)) (b := true) (by decide +kernel) rfl rfl ?_
  refine c_putI Z (idx := 9) (ss := 3) (zmU (j := 83) rfl (by decide)) (by decide) (by decide) rfl (by decide +kernel) rfl (by decide +kernel) ?_
  refine zblq Z rfl [(.aload 0, 1), (.iconst 1, 1)] (S' := (11, [(0, .inr (.inr (some (2, 7)))), (1, .inl (7 : Int32))], [.inl (1 : Int32), .inr (.inr (some (2, 7)))], _)) (b := true) (by decide +kernel) rfl rfl ?_
  refine c_putI Z (idx := 15) (ss := 4) (zmU (j := 83) rfl (by decide)) (by decide) (by decide) rfl (by decide +kernel) rfl (by decide +kernel) ?_
  refine zblq Z rfl [(.aload 0, 1), (.iconst (-1), 1)] (S' := (16, [(0, .inr (.inr (some (2, 7)))), (1, .inl (7 : Int32))], [.inl (-1 : Int32), .inr (.inr (some (2, 7)))], _)) (b := true) (by decide +kernel) rfl rfl ?_
  refine c_putI Z (idx := 18) (ss := 7) (zmU (j := 83) rfl (by decide)) (by decide) (by decide) rfl (by decide +kernel) rfl (by decide +kernel) ?_
  refine zblq Z rfl [(.aload 0, 1), (.iconst (-1), 1)] (S' := (21, [(0, .inr (.inr (some (2, 7)))), (1, .inl (7 : Int32))], [.inl (-1 : Int32), .inr (.inr (some (2, 7)))], _)) (b := true) (by decide +kernel) rfl rfl ?_
  refine c_putI Z (idx := 21) (ss := 8) (zmU (j := 83) rfl (by decide)) (by decide) (by decide) rfl (by decide +kernel) rfl (by decide +kernel) ?_
  refine zblq Z rfl [(.aload 0, 1), (.iconst 16, 2)] (S' := (27, [(0, .inr (.inr (some (2, 7)))), (1, .inl (7 : Int32))], [.inl (16 : Int32), .inr (.inr (some (2, 7)))], _)) (b := true) (by decide +kernel) rfl rfl ?_
  refine c_putI Z (idx := 24) (ss := 10) (zmU (j := 83) rfl (by decide)) (by decide) (by decide) rfl (by decide +kernel) rfl (by decide +kernel) ?_
  refine zblq Z rfl [(.aload 0, 1), (.iconst 36, 2)] (S' := (33, [(0, .inr (.inr (some (2, 7)))), (1, .inl (7 : Int32))], [.inl (36 : Int32), .inr (.inr (some (2, 7)))], _)) (b := true) (by decide +kernel) rfl rfl ?_
  refine c_putI Z (idx := 27) (ss := 11) (zmU (j := 83) rfl (by decide)) (by decide) (by decide) rfl (by decide +kernel) rfl (by decide +kernel) ?_
  refine zblq Z rfl [(.aload 0, 1), (.iconst 24, 2)] (S' := (39, [(0, .inr (.inr (some (2, 7)))), (1, .inl (7 : Int32))], [.inl (24 : Int32), .inr (.inr (some (2, 7)))], _)) (b := true) (by decide +kernel) rfl rfl ?_
  refine c_newa (n := 0) hW hs rfl (kk := 312) (i := 7) rfl Z (Or.inl ⟨rfl, rfl⟩) rfl acl_0 (by decide) ⟨by exact Nat.le_of_ble_eq_true rfl, by exact Nat.le_of_ble_eq_true rfl⟩ (by decide +kernel) ?_
  replace Z := c_Z Z hW 85
  refine c_putR Z (idx := 30) (ss := 12) (zmU (j := 83) rfl (by decide)) (by decide) (by decide) rfl (by decide +kernel) (Or.inr ⟨rfl, hin, rfl⟩) (by decide +kernel) ?_
  refine zblq Z rfl [(.aload 0, 1)] (S' := (45, [(0, .inr (.inr (some (2, 7)))), (1, .inl (7 : Int32))], [.inr (.inr (some (2, 7)))], _)) (b := true) (by decide +kernel) rfl rfl ?_
  refine c_new (n := 1) hW hs rfl (kk := 9) (i := 7) rfl Z (by decide) lk2_34 ist_9 ini_9 ⟨by exact Nat.le_of_ble_eq_true rfl, by exact Nat.le_of_ble_eq_true rfl⟩ (by decide +kernel) ?_
  replace Z := c_Z Z hW 86
  refine zblq Z rfl [(.dup, 1)] (S' := (49, [(0, .inr (.inr (some (2, 7)))), (1, .inl (7 : Int32))], [.inr (.inr (some (9, 7))), .inr (.inr (some (9, 7))), .inr (.inr (some (2, 7)))], _)) (b := true) (by decide +kernel) rfl rfl ?_
  refine c_call (n := 2) hW hs rfl (by decide +kernel) Z (as := []) (st := [.inr (.inr (some (9, 7))), .inr (.inr (some (2, 7)))]) (mc := 0) (ms := 0) (ct9_7 hW _) ho1 ho2 cwi2_36 mi9_in rfl rfl ⟨by exact Nat.le_of_ble_eq_true rfl, by exact Nat.le_of_ble_eq_true rfl⟩ rfl (by decide +kernel) ⟨by exact Nat.le_of_ble_eq_true rfl, by exact Nat.le_of_ble_eq_true rfl⟩ ?_
  replace Z := c_Z Z hW 86
  refine c_putR Z (idx := 37) (ss := 13) (zmU (j := 83) rfl (by decide)) (by decide) (by decide) rfl (by decide +kernel) (Or.inr ⟨rfl, hin, rfl⟩) (by decide +kernel) ?_
  refine zblq Z rfl [(.aload 0, 1)] (S' := (56, [(0, .inr (.inr (some (2, 7)))), (1, .inl (7 : Int32))], [.inr (.inr (some (2, 7)))], _)) (b := true) (by decide +kernel) rfl rfl ?_
  refine c_new (n := 2) hW hs rfl (kk := 8) (i := 7) rfl Z (by decide) lk2_41 ist_8 ini_8 ⟨by exact Nat.le_of_ble_eq_true rfl, by exact Nat.le_of_ble_eq_true rfl⟩ (by decide +kernel) ?_
  replace Z := c_Z Z hW 87
  refine zblq Z rfl [(.dup, 1)] (S' := (60, [(0, .inr (.inr (some (2, 7)))), (1, .inl (7 : Int32))], [.inr (.inr (some (8, 7))), .inr (.inr (some (8, 7))), .inr (.inr (some (2, 7)))], _)) (b := true) (by decide +kernel) rfl rfl ?_
  refine c_call (n := 3) hW hs rfl (by decide +kernel) Z (as := []) (st := [.inr (.inr (some (8, 7))), .inr (.inr (some (2, 7)))]) (mc := 6) (ms := 28) (ct8_7 hW _) ho1 ho2 cwi2_43 mi8_in rfl rfl ⟨by exact Nat.le_of_ble_eq_true rfl, by exact Nat.le_of_ble_eq_true rfl⟩ rfl (by decide +kernel) ⟨by exact Nat.le_of_ble_eq_true rfl, by exact Nat.le_of_ble_eq_true rfl⟩ ?_
  replace Z := c_Z Z hW 93
  refine c_putR Z (idx := 44) (ss := 15) (zmU (j := 83) rfl (by decide)) (by decide) (by decide) rfl (by decide +kernel) (Or.inr ⟨rfl, hin, rfl⟩) (by decide +kernel) ?_
  refine zblq Z rfl [(.aload 0, 1), (.iconst 8, 2)] (S' := (69, [(0, .inr (.inr (some (2, 7)))), (1, .inl (7 : Int32))], [.inl (8 : Int32), .inr (.inr (some (2, 7)))], _)) (b := true) (by decide +kernel) rfl rfl ?_
  refine c_newa (n := 9) hW hs rfl (kk := 317) (i := 7) rfl Z (Or.inl ⟨rfl, rfl⟩) rfl acl_0 (by decide) ⟨by exact Nat.le_of_ble_eq_true rfl, by exact Nat.le_of_ble_eq_true rfl⟩ (by decide +kernel) ?_
  replace Z := c_Z Z hW 94
  refine c_putR Z (idx := 50) (ss := 17) (zmU (j := 83) rfl (by decide)) (by decide) (by decide) rfl (by decide +kernel) (Or.inr ⟨rfl, hin, rfl⟩) (by decide +kernel) ?_
  refine zblq Z rfl [(.aload 0, 1), (.iload 1, 1)] (S' := (76, [(0, .inr (.inr (some (2, 7)))), (1, .inl (7 : Int32))], [.inl (7 : Int32), .inr (.inr (some (2, 7)))], _)) (b := true) (by decide +kernel) rfl rfl ?_
  refine c_putF Z (idx := 53) (ss := 0) (zmU (j := 83) rfl (by decide)) (by decide) (by decide) rfl (by decide +kernel) ⟨rfl, hin, rfl⟩ (by decide +kernel) ?_
  refine zblq Z rfl [(.aload 0, 1)] (S' := (80, [(0, .inr (.inr (some (2, 7)))), (1, .inl (7 : Int32))], [.inr (.inr (some (2, 7)))], _)) (b := true) (by decide +kernel) rfl rfl ?_
  refine c_getR Z (idx := 30) (ss := 12) (r := (312, 7)) (zmU (j := 83) rfl (by decide)) (by decide) (by decide) rfl (by decide +kernel) rfl (by decide +kernel) ?_
  refine zblq Z rfl [(.iconst 16, 2)] (S' := (85, [(0, .inr (.inr (some (2, 7)))), (1, .inl (7 : Int32))], [.inl (16 : Int32), .inr (.inr (some (312, 7)))], _)) (b := true) (by decide +kernel) rfl rfl ?_
  refine zcallS Z (as := [.inr (.inr (some (312, 7))), .inl (16 : Int32)]) (st := []) (c_fill (zGt_ok hW _) (zmU (j := 84) rfl (by decide)) rfl (by decide)) cwi2_56 mJ7_fill_in rfl ⟨by exact Nat.le_of_ble_eq_true rfl, by exact Nat.le_of_ble_eq_true rfl⟩ rfl (by decide +kernel) ⟨by exact Nat.le_of_ble_eq_true rfl, by exact Nat.le_of_ble_eq_true rfl⟩ ?_
  exact zret_c Z hA hE (by decide +kernel)
def mk9_8 (M : zM) : zM := M
set_option maxRecDepth 100000 in
theorem ct9_8 {l : Launch} {D : va_G} {ad : zR → Nat} {ca : Nat → ClassId} {A : Nat → Prop} {base : Nat} (hW : zWh zUC base ad A) (M : zM) : zMetC l yX9_init cX9_init 1 1 0 0 12 [.inr (.inr (some (9, 8)))] (base + 97) (zGt zUC D ad ca A 97) M (zGt zUC D ad ca A 97) (mk9_8 M) := by
  refine zMetC_of (zGt_ok hW _) rfl tbK9_ok rfl rfl (by decide +kernel) (Nat.le_of_ble_eq_true rfl) (fun X _ Z hA hE => ?_)
  obtain ⟨p, l', e, R, s, m, args, below, meth, c, Q⟩ := X
  obtain ⟨hR, -, hin, hs, ho1, ho2⟩ := id hA
  subst hR
  refine zblq Z rfl [(.aload 0, 1)] (S' := (1, [(0, .inr (.inr (some (9, 8))))], [.inr (.inr (some (9, 8)))], _)) (b := true) (by decide +kernel) rfl rfl ?_
  refine z_obj Z ol9_1 ol_in ol_cd ⟨by exact Nat.le_of_ble_eq_true rfl, by exact Nat.le_of_ble_eq_true rfl⟩ (by decide +kernel) ?_
  exact zret_c Z hA hE (by decide +kernel)
def mk9_42 (M : zM) : zM := M
set_option maxRecDepth 100000 in
theorem ct9_42 {l : Launch} {D : va_G} {ad : zR → Nat} {ca : Nat → ClassId} {A : Nat → Prop} {base : Nat} (hW : zWh zUC base ad A) (M : zM) : zMetC l yX9_init cX9_init 1 1 0 0 12 [.inr (.inr (some (9, 42)))] (base + 101) (zGt zUC D ad ca A 101) M (zGt zUC D ad ca A 101) (mk9_42 M) := by
  refine zMetC_of (zGt_ok hW _) rfl tbK9_ok rfl rfl (by decide +kernel) (Nat.le_of_ble_eq_true rfl) (fun X _ Z hA hE => ?_)
  obtain ⟨p, l', e, R, s, m, args, below, meth, c, Q⟩ := X
  obtain ⟨hR, -, hin, hs, ho1, ho2⟩ := id hA
  subst hR
  refine zblq Z rfl [(.aload 0, 1)] (S' := (1, [(0, .inr (.inr (some (9, 42))))], [.inr (.inr (some (9, 42)))], _)) (b := true) (by decide +kernel) rfl rfl ?_
  refine z_obj Z ol9_1 ol_in ol_cd ⟨by exact Nat.le_of_ble_eq_true rfl, by exact Nat.le_of_ble_eq_true rfl⟩ (by decide +kernel) ?_
  exact zret_c Z hA hE (by decide +kernel)
def mk9_43 (M : zM) : zM := M
set_option maxRecDepth 100000 in
theorem ct9_43 {l : Launch} {D : va_G} {ad : zR → Nat} {ca : Nat → ClassId} {A : Nat → Prop} {base : Nat} (hW : zWh zUC base ad A) (M : zM) : zMetC l yX9_init cX9_init 1 1 0 0 12 [.inr (.inr (some (9, 43)))] (base + 102) (zGt zUC D ad ca A 102) M (zGt zUC D ad ca A 102) (mk9_43 M) := by
  refine zMetC_of (zGt_ok hW _) rfl tbK9_ok rfl rfl (by decide +kernel) (Nat.le_of_ble_eq_true rfl) (fun X _ Z hA hE => ?_)
  obtain ⟨p, l', e, R, s, m, args, below, meth, c, Q⟩ := X
  obtain ⟨hR, -, hin, hs, ho1, ho2⟩ := id hA
  subst hR
  refine zblq Z rfl [(.aload 0, 1)] (S' := (1, [(0, .inr (.inr (some (9, 43))))], [.inr (.inr (some (9, 43)))], _)) (b := true) (by decide +kernel) rfl rfl ?_
  refine z_obj Z ol9_1 ol_in ol_cd ⟨by exact Nat.le_of_ble_eq_true rfl, by exact Nat.le_of_ble_eq_true rfl⟩ (by decide +kernel) ?_
  exact zret_c Z hA hE (by decide +kernel)
def mk9_44 (M : zM) : zM := M
set_option maxRecDepth 100000 in
theorem ct9_44 {l : Launch} {D : va_G} {ad : zR → Nat} {ca : Nat → ClassId} {A : Nat → Prop} {base : Nat} (hW : zWh zUC base ad A) (M : zM) : zMetC l yX9_init cX9_init 1 1 0 0 12 [.inr (.inr (some (9, 44)))] (base + 103) (zGt zUC D ad ca A 103) M (zGt zUC D ad ca A 103) (mk9_44 M) := by
  refine zMetC_of (zGt_ok hW _) rfl tbK9_ok rfl rfl (by decide +kernel) (Nat.le_of_ble_eq_true rfl) (fun X _ Z hA hE => ?_)
  obtain ⟨p, l', e, R, s, m, args, below, meth, c, Q⟩ := X
  obtain ⟨hR, -, hin, hs, ho1, ho2⟩ := id hA
  subst hR
  refine zblq Z rfl [(.aload 0, 1)] (S' := (1, [(0, .inr (.inr (some (9, 44))))], [.inr (.inr (some (9, 44)))], _)) (b := true) (by decide +kernel) rfl rfl ?_
  refine z_obj Z ol9_1 ol_in ol_cd ⟨by exact Nat.le_of_ble_eq_true rfl, by exact Nat.le_of_ble_eq_true rfl⟩ (by decide +kernel) ?_
  exact zret_c Z hA hE (by decide +kernel)
def mk9_45 (M : zM) : zM := M
set_option maxRecDepth 100000 in
theorem ct9_45 {l : Launch} {D : va_G} {ad : zR → Nat} {ca : Nat → ClassId} {A : Nat → Prop} {base : Nat} (hW : zWh zUC base ad A) (M : zM) : zMetC l yX9_init cX9_init 1 1 0 0 12 [.inr (.inr (some (9, 45)))] (base + 104) (zGt zUC D ad ca A 104) M (zGt zUC D ad ca A 104) (mk9_45 M) := by
  refine zMetC_of (zGt_ok hW _) rfl tbK9_ok rfl rfl (by decide +kernel) (Nat.le_of_ble_eq_true rfl) (fun X _ Z hA hE => ?_)
  obtain ⟨p, l', e, R, s, m, args, below, meth, c, Q⟩ := X
  obtain ⟨hR, -, hin, hs, ho1, ho2⟩ := id hA
  subst hR
  refine zblq Z rfl [(.aload 0, 1)] (S' := (1, [(0, .inr (.inr (some (9, 45))))], [.inr (.inr (some (9, 45)))], _)) (b := true) (by decide +kernel) rfl rfl ?_
  refine z_obj Z ol9_1 ol_in ol_cd ⟨by exact Nat.le_of_ble_eq_true rfl, by exact Nat.le_of_ble_eq_true rfl⟩ (by decide +kernel) ?_
  exact zret_c Z hA hE (by decide +kernel)
def mk8_8 (M : zM) : zM := zwF (mk9_45 (zclr (zwF (mk9_44 (zclr (zwF (mk9_43 (zclr (zwF (mk9_42 (zclr (zwF (zclr (zwF (zclr M 900 8) 8 8 0 (900, 8)) 901 8) 8 8 1 (901, 8)) 9 42)) 901 8 0 (9, 42)) 9 43)) 901 8 1 (9, 43)) 9 44)) 901 8 2 (9, 44)) 9 45)) 901 8 3 (9, 45)
set_option maxRecDepth 100000 in
theorem ct8_8 {l : Launch} {D : va_G} {ad : zR → Nat} {ca : Nat → ClassId} {A : Nat → Prop} {base : Nat} (hW : zWh zUC base ad A) (M : zM) : zMetC l yX8_init cX8_init 2 2 6 28 32 [.inr (.inr (some (8, 8)))] (base + 98) (zGt zUC D ad ca A 98) M (zGt zUC D ad ca A 104) (mk8_8 M) := by
  refine zMetC_of (zGt_ok hW _) rfl tbK8_ok rfl rfl (by decide +kernel) (Nat.le_of_ble_eq_true rfl) (fun X _ Z hA hE => ?_)
  obtain ⟨p, l', e, R, s, m, args, below, meth, c, Q⟩ := X
  obtain ⟨hR, -, hin, hs, ho1, ho2⟩ := id hA
  subst hR
  refine zblq Z rfl [(.aload 0, 1)] (S' := (1, [(0, .inr (.inr (some (8, 8))))], [.inr (.inr (some (8, 8)))], _)) (b := true) (by decide +kernel) rfl rfl ?_
  refine z_obj Z ol8_1 ol_in ol_cd ⟨by exact Nat.le_of_ble_eq_true rfl, by exact Nat.le_of_ble_eq_true rfl⟩ (by decide +kernel) ?_
  refine zblq Z rfl [(.aload 0, 1), (.iconst 4, 1)] (S' := (6, [(0, .inr (.inr (some (8, 8))))], [.inl (4 : Int32), .inr (.inr (some (8, 8)))], _)) (b := true) (by decide +kernel) rfl rfl ?_
  refine c_newa (n := 0) hW hs rfl (kk := 900) (i := 8) rfl Z (Or.inl ⟨rfl, rfl⟩) rfl acl_0 (by decide) ⟨by exact Nat.le_of_ble_eq_true rfl, by exact Nat.le_of_ble_eq_true rfl⟩ (by decide +kernel) ?_
  replace Z := c_Z Z hW 99
  refine c_putR Z (idx := 9) (ss := 0) (zmU (j := 97) rfl (by decide)) (by decide) (by decide) rfl (by decide +kernel) (Or.inr ⟨rfl, hin, rfl⟩) (by decide +kernel) ?_
  refine zblq Z rfl [(.aload 0, 1), (.iconst 4, 1)] (S' := (13, [(0, .inr (.inr (some (8, 8))))], [.inl (4 : Int32), .inr (.inr (some (8, 8)))], _)) (b := true) (by decide +kernel) rfl rfl ?_
  refine c_newq (n := 1) hW hs rfl (kk := 901) (i := 8) (C0 := "EarField$Sum") rfl Z (Or.inr ⟨rfl, rfl⟩) rfl lk8_13 ho2 (by decide) ⟨by exact Nat.le_of_ble_eq_true rfl, by exact Nat.le_of_ble_eq_true rfl⟩ (by decide +kernel) ?_
  replace Z := c_Z Z hW 100
  refine c_putR Z (idx := 15) (ss := 1) (zmU (j := 97) rfl (by decide)) (by decide) (by decide) rfl (by decide +kernel) (Or.inr ⟨rfl, hin, rfl⟩) (by decide +kernel) ?_
  refine zblq Z rfl [(.iconst 0, 1), (.istore 1, 1), (.iload 1, 1), (.iconst 4, 1)] (S' := (23, [(0, .inr (.inr (some (8, 8)))), (1, .inl (0 : Int32))], [.inl (4 : Int32), .inl (0 : Int32)], _)) (b := true) (by decide +kernel) rfl rfl ?_
  refine zic_ge Z (off := 22) (tgt := 45) (by decide +kernel) (by decide) (fun h => absurd h (by decide)) (fun _ => ?_)
  refine zblq Z rfl [(.aload 0, 1)] (S' := (27, [(0, .inr (.inr (some (8, 8)))), (1, .inl (0 : Int32))], [.inr (.inr (some (8, 8)))], _)) (b := true) (by decide +kernel) rfl rfl ?_
  refine c_getR Z (idx := 15) (ss := 1) (r := (901, 8)) (zmU (j := 97) rfl (by decide)) (by decide) (by decide) rfl (by decide +kernel) rfl (by decide +kernel) ?_
  refine zblq Z rfl [(.iload 1, 1)] (S' := (31, [(0, .inr (.inr (some (8, 8)))), (1, .inl (0 : Int32))], [.inl (0 : Int32), .inr (.inr (some (901, 8)))], _)) (b := true) (by decide +kernel) rfl rfl ?_
  refine c_new (n := 2) hW hs rfl (kk := 9) (i := 42) rfl Z (by decide) lk8_13 ist_9 ini_9 ⟨by exact Nat.le_of_ble_eq_true rfl, by exact Nat.le_of_ble_eq_true rfl⟩ (by decide +kernel) ?_
  replace Z := c_Z Z hW 101
  refine zblq Z rfl [(.dup, 1)] (S' := (35, [(0, .inr (.inr (some (8, 8)))), (1, .inl (0 : Int32))], [.inr (.inr (some (9, 42))), .inr (.inr (some (9, 42))), .inl (0 : Int32), .inr (.inr (some (901, 8)))], _)) (b := true) (by decide +kernel) rfl rfl ?_
  refine c_call (n := 3) hW hs rfl (by decide +kernel) Z (as := []) (st := [.inr (.inr (some (9, 42))), .inl (0 : Int32), .inr (.inr (some (901, 8)))]) (mc := 0) (ms := 0) (ct9_42 hW _) ho1 ho2 cwi8_19 mi9_in rfl rfl ⟨by exact Nat.le_of_ble_eq_true rfl, by exact Nat.le_of_ble_eq_true rfl⟩ rfl (by decide +kernel) ⟨by exact Nat.le_of_ble_eq_true rfl, by exact Nat.le_of_ble_eq_true rfl⟩ ?_
  replace Z := c_Z Z hW 101
  refine c_aast Z (t := 3) (jn := 0) (zmU (j := 99) rfl (by decide)) (zmU (j := 100) rfl (by decide)) ⟨rfl, Or.inr ⟨rfl, rfl⟩⟩ (by decide) (by decide) (by decide +kernel) ?_
  refine zblq Z rfl [(.iinc 1 1, 3), (.ldc 21, 3), (.iload 1, 1), (.iconst 4, 1)] (S' := (23, [(0, .inr (.inr (some (8, 8)))), (1, .inl (1 : Int32))], [.inl (4 : Int32), .inl (1 : Int32)], _)) (b := true) (by decide +kernel) rfl rfl ?_
  refine zic_ge Z (off := 22) (tgt := 45) (by decide +kernel) (by decide) (fun h => absurd h (by decide)) (fun _ => ?_)
  refine zblq Z rfl [(.aload 0, 1)] (S' := (27, [(0, .inr (.inr (some (8, 8)))), (1, .inl (1 : Int32))], [.inr (.inr (some (8, 8)))], _)) (b := true) (by decide +kernel) rfl rfl ?_
  refine c_getR Z (idx := 15) (ss := 1) (r := (901, 8)) (zmU (j := 97) rfl (by decide)) (by decide) (by decide) rfl (by decide +kernel) rfl (by decide +kernel) ?_
  refine zblq Z rfl [(.iload 1, 1)] (S' := (31, [(0, .inr (.inr (some (8, 8)))), (1, .inl (1 : Int32))], [.inl (1 : Int32), .inr (.inr (some (901, 8)))], _)) (b := true) (by decide +kernel) rfl rfl ?_
  refine c_new (n := 3) hW hs rfl (kk := 9) (i := 43) rfl Z (by decide) lk8_13 ist_9 ini_9 ⟨by exact Nat.le_of_ble_eq_true rfl, by exact Nat.le_of_ble_eq_true rfl⟩ (by decide +kernel) ?_
  replace Z := c_Z Z hW 102
  refine zblq Z rfl [(.dup, 1)] (S' := (35, [(0, .inr (.inr (some (8, 8)))), (1, .inl (1 : Int32))], [.inr (.inr (some (9, 43))), .inr (.inr (some (9, 43))), .inl (1 : Int32), .inr (.inr (some (901, 8)))], _)) (b := true) (by decide +kernel) rfl rfl ?_
  refine c_call (n := 4) hW hs rfl (by decide +kernel) Z (as := []) (st := [.inr (.inr (some (9, 43))), .inl (1 : Int32), .inr (.inr (some (901, 8)))]) (mc := 0) (ms := 0) (ct9_43 hW _) ho1 ho2 cwi8_19 mi9_in rfl rfl ⟨by exact Nat.le_of_ble_eq_true rfl, by exact Nat.le_of_ble_eq_true rfl⟩ rfl (by decide +kernel) ⟨by exact Nat.le_of_ble_eq_true rfl, by exact Nat.le_of_ble_eq_true rfl⟩ ?_
  replace Z := c_Z Z hW 102
  refine c_aast Z (t := 3) (jn := 1) (zmU (j := 99) rfl (by decide)) (zmU (j := 101) rfl (by decide)) ⟨rfl, Or.inr ⟨rfl, rfl⟩⟩ (by decide) (by decide) (by decide +kernel) ?_
  refine zblq Z rfl [(.iinc 1 1, 3), (.ldc 21, 3), (.iload 1, 1), (.iconst 4, 1)] (S' := (23, [(0, .inr (.inr (some (8, 8)))), (1, .inl (2 : Int32))], [.inl (4 : Int32), .inl (2 : Int32)], _)) (b := true) (by decide +kernel) rfl rfl ?_
  refine zic_ge Z (off := 22) (tgt := 45) (by decide +kernel) (by decide) (fun h => absurd h (by decide)) (fun _ => ?_)
  refine zblq Z rfl [(.aload 0, 1)] (S' := (27, [(0, .inr (.inr (some (8, 8)))), (1, .inl (2 : Int32))], [.inr (.inr (some (8, 8)))], _)) (b := true) (by decide +kernel) rfl rfl ?_
  refine c_getR Z (idx := 15) (ss := 1) (r := (901, 8)) (zmU (j := 97) rfl (by decide)) (by decide) (by decide) rfl (by decide +kernel) rfl (by decide +kernel) ?_
  refine zblq Z rfl [(.iload 1, 1)] (S' := (31, [(0, .inr (.inr (some (8, 8)))), (1, .inl (2 : Int32))], [.inl (2 : Int32), .inr (.inr (some (901, 8)))], _)) (b := true) (by decide +kernel) rfl rfl ?_
  refine c_new (n := 4) hW hs rfl (kk := 9) (i := 44) rfl Z (by decide) lk8_13 ist_9 ini_9 ⟨by exact Nat.le_of_ble_eq_true rfl, by exact Nat.le_of_ble_eq_true rfl⟩ (by decide +kernel) ?_
  replace Z := c_Z Z hW 103
  refine zblq Z rfl [(.dup, 1)] (S' := (35, [(0, .inr (.inr (some (8, 8)))), (1, .inl (2 : Int32))], [.inr (.inr (some (9, 44))), .inr (.inr (some (9, 44))), .inl (2 : Int32), .inr (.inr (some (901, 8)))], _)) (b := true) (by decide +kernel) rfl rfl ?_
  refine c_call (n := 5) hW hs rfl (by decide +kernel) Z (as := []) (st := [.inr (.inr (some (9, 44))), .inl (2 : Int32), .inr (.inr (some (901, 8)))]) (mc := 0) (ms := 0) (ct9_44 hW _) ho1 ho2 cwi8_19 mi9_in rfl rfl ⟨by exact Nat.le_of_ble_eq_true rfl, by exact Nat.le_of_ble_eq_true rfl⟩ rfl (by decide +kernel) ⟨by exact Nat.le_of_ble_eq_true rfl, by exact Nat.le_of_ble_eq_true rfl⟩ ?_
  replace Z := c_Z Z hW 103
  refine c_aast Z (t := 3) (jn := 2) (zmU (j := 99) rfl (by decide)) (zmU (j := 102) rfl (by decide)) ⟨rfl, Or.inr ⟨rfl, rfl⟩⟩ (by decide) (by decide) (by decide +kernel) ?_
  refine zblq Z rfl [(.iinc 1 1, 3), (.ldc 21, 3), (.iload 1, 1), (.iconst 4, 1)] (S' := (23, [(0, .inr (.inr (some (8, 8)))), (1, .inl (3 : Int32))], [.inl (4 : Int32), .inl (3 : Int32)], _)) (b := true) (by decide +kernel) rfl rfl ?_
  refine zic_ge Z (off := 22) (tgt := 45) (by decide +kernel) (by decide) (fun h => absurd h (by decide)) (fun _ => ?_)
  refine zblq Z rfl [(.aload 0, 1)] (S' := (27, [(0, .inr (.inr (some (8, 8)))), (1, .inl (3 : Int32))], [.inr (.inr (some (8, 8)))], _)) (b := true) (by decide +kernel) rfl rfl ?_
  refine c_getR Z (idx := 15) (ss := 1) (r := (901, 8)) (zmU (j := 97) rfl (by decide)) (by decide) (by decide) rfl (by decide +kernel) rfl (by decide +kernel) ?_
  refine zblq Z rfl [(.iload 1, 1)] (S' := (31, [(0, .inr (.inr (some (8, 8)))), (1, .inl (3 : Int32))], [.inl (3 : Int32), .inr (.inr (some (901, 8)))], _)) (b := true) (by decide +kernel) rfl rfl ?_
  refine c_new (n := 5) hW hs rfl (kk := 9) (i := 45) rfl Z (by decide) lk8_13 ist_9 ini_9 ⟨by exact Nat.le_of_ble_eq_true rfl, by exact Nat.le_of_ble_eq_true rfl⟩ (by decide +kernel) ?_
  replace Z := c_Z Z hW 104
  refine zblq Z rfl [(.dup, 1)] (S' := (35, [(0, .inr (.inr (some (8, 8)))), (1, .inl (3 : Int32))], [.inr (.inr (some (9, 45))), .inr (.inr (some (9, 45))), .inl (3 : Int32), .inr (.inr (some (901, 8)))], _)) (b := true) (by decide +kernel) rfl rfl ?_
  refine c_call (n := 6) hW hs rfl (by decide +kernel) Z (as := []) (st := [.inr (.inr (some (9, 45))), .inl (3 : Int32), .inr (.inr (some (901, 8)))]) (mc := 0) (ms := 0) (ct9_45 hW _) ho1 ho2 cwi8_19 mi9_in rfl rfl ⟨by exact Nat.le_of_ble_eq_true rfl, by exact Nat.le_of_ble_eq_true rfl⟩ rfl (by decide +kernel) ⟨by exact Nat.le_of_ble_eq_true rfl, by exact Nat.le_of_ble_eq_true rfl⟩ ?_
  replace Z := c_Z Z hW 104
  refine c_aast Z (t := 3) (jn := 3) (zmU (j := 99) rfl (by decide)) (zmU (j := 103) rfl (by decide)) ⟨rfl, Or.inr ⟨rfl, rfl⟩⟩ (by decide) (by decide) (by decide +kernel) ?_
  refine zblq Z rfl [(.iinc 1 1, 3), (.ldc 21, 3), (.iload 1, 1), (.iconst 4, 1)] (S' := (23, [(0, .inr (.inr (some (8, 8)))), (1, .inl (4 : Int32))], [.inl (4 : Int32), .inl (4 : Int32)], _)) (b := true) (by decide +kernel) rfl rfl ?_
  refine zic_ge Z (off := 22) (tgt := 45) (by decide +kernel) (by decide) (fun _ => ?_) (fun h => absurd (by decide) h)
  exact zret_c Z hA hE (by decide +kernel)
def mk2_8 (M : zM) : zM := zfl (zwI (zwF (zclr (zwF (mk8_8 (zclr (zwF (mk9_8 (zclr (zwF (zclr (zwI (zwI (zwI (zwI (zwI (zwI M 2 8 3 (1 : Int32)) 2 8 4 (1 : Int32)) 2 8 7 (-1 : Int32)) 2 8 8 (-1 : Int32)) 2 8 10 (16 : Int32)) 2 8 11 (36 : Int32)) 312 8) 2 8 12 (312, 8)) 9 8)) 2 8 13 (9, 8)) 8 8)) 2 8 15 (8, 8)) 317 8) 2 8 17 (317, 8)) 2 8 0 (8 : Int32)) 312 8 (zak 312).2 (16 : Int32)
set_option maxRecDepth 100000 in
theorem ct2_8 {l : Launch} {D : va_G} {ad : zR → Nat} {ca : Nat → ClassId} {A : Nat → Prop} {base : Nat} (hW : zWh zUC base ad A) (M : zM) : zMetC l yX2_init cX2_init 2 3 10 68 53 [.inr (.inr (some (2, 8))), .inl (8 : Int32)] (base + 95) (zGt zUC D ad ca A 95) M (zGt zUC D ad ca A 105) (mk2_8 M) := by
  refine zMetC_of (zGt_ok hW _) rfl tbK2_ok rfl rfl (by decide +kernel) (Nat.le_of_ble_eq_true rfl) (fun X _ Z hA hE => ?_)
  obtain ⟨p, l', e, R, s, m, args, below, meth, c, Q⟩ := X
  obtain ⟨hR, -, hin, hs, ho1, ho2⟩ := id hA
  subst hR
  refine zblq Z rfl [(.aload 0, 1)] (S' := (1, [(0, .inr (.inr (some (2, 8)))), (1, .inl (8 : Int32))], [.inr (.inr (some (2, 8)))], _)) (b := true) (by decide +kernel) rfl rfl ?_
  refine z_obj Z ol2_3 ol_in ol_cd ⟨by exact Nat.le_of_ble_eq_true rfl, by exact Nat.le_of_ble_eq_true rfl⟩ (by decide +kernel) ?_
  refine zblq Z rfl [(.aload 0, 1), (.iconst 1, 1)] (S' := (6, [(0, .inr (.inr (some (2, 8)))), (1, .inl (8 : Int32))], [.inl (1 : Int32), .inr (.inr (some (2, 8)))], _)) (b := true) (by decide +kernel) rfl rfl ?_
  refine c_putI Z (idx := 9) (ss := 3) (zmU (j := 94) rfl (by decide)) (by decide) (by decide) rfl (by decide +kernel) rfl (by decide +kernel) ?_
  refine zblq Z rfl [(.aload 0, 1), (.iconst 1, 1)] (S' := (11, [(0, .inr (.inr (some (2, 8)))), (1, .inl (8 : Int32))], [.inl (1 : Int32), .inr (.inr (some (2, 8)))], _)) (b := true) (by decide +kernel) rfl rfl ?_
  refine c_putI Z (idx := 15) (ss := 4) (zmU (j := 94) rfl (by decide)) (by decide) (by decide) rfl (by decide +kernel) rfl (by decide +kernel) ?_
  refine zblq Z rfl [(.aload 0, 1), (.iconst (-1), 1)] (S' := (16, [(0, .inr (.inr (some (2, 8)))), (1, .inl (8 : Int32))], [.inl (-1 : Int32), .inr (.inr (some (2, 8)))], _)) (b := true) (by decide +kernel) rfl rfl ?_
  refine c_putI Z (idx := 18) (ss := 7) (zmU (j := 94) rfl (by decide)) (by decide) (by decide) rfl (by decide +kernel) rfl (by decide +kernel) ?_
  refine zblq Z rfl [(.aload 0, 1), (.iconst (-1), 1)] (S' := (21, [(0, .inr (.inr (some (2, 8)))), (1, .inl (8 : Int32))], [.inl (-1 : Int32), .inr (.inr (some (2, 8)))], _)) (b := true) (by decide +kernel) rfl rfl ?_
  refine c_putI Z (idx := 21) (ss := 8) (zmU (j := 94) rfl (by decide)) (by decide) (by decide) rfl (by decide +kernel) rfl (by decide +kernel) ?_
  refine zblq Z rfl [(.aload 0, 1), (.iconst 16, 2)] (S' := (27, [(0, .inr (.inr (some (2, 8)))), (1, .inl (8 : Int32))], [.inl (16 : Int32), .inr (.inr (some (2, 8)))], _)) (b := true) (by decide +kernel) rfl rfl ?_
  refine c_putI Z (idx := 24) (ss := 10) (zmU (j := 94) rfl (by decide)) (by decide) (by decide) rfl (by decide +kernel) rfl (by decide +kernel) ?_
  refine zblq Z rfl [(.aload 0, 1), (.iconst 36, 2)] (S' := (33, [(0, .inr (.inr (some (2, 8)))), (1, .inl (8 : Int32))], [.inl (36 : Int32), .inr (.inr (some (2, 8)))], _)) (b := true) (by decide +kernel) rfl rfl ?_
  refine c_putI Z (idx := 27) (ss := 11) (zmU (j := 94) rfl (by decide)) (by decide) (by decide) rfl (by decide +kernel) rfl (by decide +kernel) ?_
  refine zblq Z rfl [(.aload 0, 1), (.iconst 24, 2)] (S' := (39, [(0, .inr (.inr (some (2, 8)))), (1, .inl (8 : Int32))], [.inl (24 : Int32), .inr (.inr (some (2, 8)))], _)) (b := true) (by decide +kernel) rfl rfl ?_
  refine c_newa (n := 0) hW hs rfl (kk := 312) (i := 8) rfl Z (Or.inl ⟨rfl, rfl⟩) rfl acl_0 (by decide) ⟨by exact Nat.le_of_ble_eq_true rfl, by exact Nat.le_of_ble_eq_true rfl⟩ (by decide +kernel) ?_
  replace Z := c_Z Z hW 96
  refine c_putR Z (idx := 30) (ss := 12) (zmU (j := 94) rfl (by decide)) (by decide) (by decide) rfl (by decide +kernel) (Or.inr ⟨rfl, hin, rfl⟩) (by decide +kernel) ?_
  refine zblq Z rfl [(.aload 0, 1)] (S' := (45, [(0, .inr (.inr (some (2, 8)))), (1, .inl (8 : Int32))], [.inr (.inr (some (2, 8)))], _)) (b := true) (by decide +kernel) rfl rfl ?_
  refine c_new (n := 1) hW hs rfl (kk := 9) (i := 8) rfl Z (by decide) lk2_34 ist_9 ini_9 ⟨by exact Nat.le_of_ble_eq_true rfl, by exact Nat.le_of_ble_eq_true rfl⟩ (by decide +kernel) ?_
  replace Z := c_Z Z hW 97
  refine zblq Z rfl [(.dup, 1)] (S' := (49, [(0, .inr (.inr (some (2, 8)))), (1, .inl (8 : Int32))], [.inr (.inr (some (9, 8))), .inr (.inr (some (9, 8))), .inr (.inr (some (2, 8)))], _)) (b := true) (by decide +kernel) rfl rfl ?_
  refine c_call (n := 2) hW hs rfl (by decide +kernel) Z (as := []) (st := [.inr (.inr (some (9, 8))), .inr (.inr (some (2, 8)))]) (mc := 0) (ms := 0) (ct9_8 hW _) ho1 ho2 cwi2_36 mi9_in rfl rfl ⟨by exact Nat.le_of_ble_eq_true rfl, by exact Nat.le_of_ble_eq_true rfl⟩ rfl (by decide +kernel) ⟨by exact Nat.le_of_ble_eq_true rfl, by exact Nat.le_of_ble_eq_true rfl⟩ ?_
  replace Z := c_Z Z hW 97
  refine c_putR Z (idx := 37) (ss := 13) (zmU (j := 94) rfl (by decide)) (by decide) (by decide) rfl (by decide +kernel) (Or.inr ⟨rfl, hin, rfl⟩) (by decide +kernel) ?_
  refine zblq Z rfl [(.aload 0, 1)] (S' := (56, [(0, .inr (.inr (some (2, 8)))), (1, .inl (8 : Int32))], [.inr (.inr (some (2, 8)))], _)) (b := true) (by decide +kernel) rfl rfl ?_
  refine c_new (n := 2) hW hs rfl (kk := 8) (i := 8) rfl Z (by decide) lk2_41 ist_8 ini_8 ⟨by exact Nat.le_of_ble_eq_true rfl, by exact Nat.le_of_ble_eq_true rfl⟩ (by decide +kernel) ?_
  replace Z := c_Z Z hW 98
  refine zblq Z rfl [(.dup, 1)] (S' := (60, [(0, .inr (.inr (some (2, 8)))), (1, .inl (8 : Int32))], [.inr (.inr (some (8, 8))), .inr (.inr (some (8, 8))), .inr (.inr (some (2, 8)))], _)) (b := true) (by decide +kernel) rfl rfl ?_
  refine c_call (n := 3) hW hs rfl (by decide +kernel) Z (as := []) (st := [.inr (.inr (some (8, 8))), .inr (.inr (some (2, 8)))]) (mc := 6) (ms := 28) (ct8_8 hW _) ho1 ho2 cwi2_43 mi8_in rfl rfl ⟨by exact Nat.le_of_ble_eq_true rfl, by exact Nat.le_of_ble_eq_true rfl⟩ rfl (by decide +kernel) ⟨by exact Nat.le_of_ble_eq_true rfl, by exact Nat.le_of_ble_eq_true rfl⟩ ?_
  replace Z := c_Z Z hW 104
  refine c_putR Z (idx := 44) (ss := 15) (zmU (j := 94) rfl (by decide)) (by decide) (by decide) rfl (by decide +kernel) (Or.inr ⟨rfl, hin, rfl⟩) (by decide +kernel) ?_
  refine zblq Z rfl [(.aload 0, 1), (.iconst 8, 2)] (S' := (69, [(0, .inr (.inr (some (2, 8)))), (1, .inl (8 : Int32))], [.inl (8 : Int32), .inr (.inr (some (2, 8)))], _)) (b := true) (by decide +kernel) rfl rfl ?_
  refine c_newa (n := 9) hW hs rfl (kk := 317) (i := 8) rfl Z (Or.inl ⟨rfl, rfl⟩) rfl acl_0 (by decide) ⟨by exact Nat.le_of_ble_eq_true rfl, by exact Nat.le_of_ble_eq_true rfl⟩ (by decide +kernel) ?_
  replace Z := c_Z Z hW 105
  refine c_putR Z (idx := 50) (ss := 17) (zmU (j := 94) rfl (by decide)) (by decide) (by decide) rfl (by decide +kernel) (Or.inr ⟨rfl, hin, rfl⟩) (by decide +kernel) ?_
  refine zblq Z rfl [(.aload 0, 1), (.iload 1, 1)] (S' := (76, [(0, .inr (.inr (some (2, 8)))), (1, .inl (8 : Int32))], [.inl (8 : Int32), .inr (.inr (some (2, 8)))], _)) (b := true) (by decide +kernel) rfl rfl ?_
  refine c_putF Z (idx := 53) (ss := 0) (zmU (j := 94) rfl (by decide)) (by decide) (by decide) rfl (by decide +kernel) ⟨rfl, hin, rfl⟩ (by decide +kernel) ?_
  refine zblq Z rfl [(.aload 0, 1)] (S' := (80, [(0, .inr (.inr (some (2, 8)))), (1, .inl (8 : Int32))], [.inr (.inr (some (2, 8)))], _)) (b := true) (by decide +kernel) rfl rfl ?_
  refine c_getR Z (idx := 30) (ss := 12) (r := (312, 8)) (zmU (j := 94) rfl (by decide)) (by decide) (by decide) rfl (by decide +kernel) rfl (by decide +kernel) ?_
  refine zblq Z rfl [(.iconst 16, 2)] (S' := (85, [(0, .inr (.inr (some (2, 8)))), (1, .inl (8 : Int32))], [.inl (16 : Int32), .inr (.inr (some (312, 8)))], _)) (b := true) (by decide +kernel) rfl rfl ?_
  refine zcallS Z (as := [.inr (.inr (some (312, 8))), .inl (16 : Int32)]) (st := []) (c_fill (zGt_ok hW _) (zmU (j := 95) rfl (by decide)) rfl (by decide)) cwi2_56 mJ7_fill_in rfl ⟨by exact Nat.le_of_ble_eq_true rfl, by exact Nat.le_of_ble_eq_true rfl⟩ rfl (by decide +kernel) ⟨by exact Nat.le_of_ble_eq_true rfl, by exact Nat.le_of_ble_eq_true rfl⟩ ?_
  exact zret_c Z hA hE (by decide +kernel)
def mk9_9 (M : zM) : zM := M
set_option maxRecDepth 100000 in
theorem ct9_9 {l : Launch} {D : va_G} {ad : zR → Nat} {ca : Nat → ClassId} {A : Nat → Prop} {base : Nat} (hW : zWh zUC base ad A) (M : zM) : zMetC l yX9_init cX9_init 1 1 0 0 12 [.inr (.inr (some (9, 9)))] (base + 108) (zGt zUC D ad ca A 108) M (zGt zUC D ad ca A 108) (mk9_9 M) := by
  refine zMetC_of (zGt_ok hW _) rfl tbK9_ok rfl rfl (by decide +kernel) (Nat.le_of_ble_eq_true rfl) (fun X _ Z hA hE => ?_)
  obtain ⟨p, l', e, R, s, m, args, below, meth, c, Q⟩ := X
  obtain ⟨hR, -, hin, hs, ho1, ho2⟩ := id hA
  subst hR
  refine zblq Z rfl [(.aload 0, 1)] (S' := (1, [(0, .inr (.inr (some (9, 9))))], [.inr (.inr (some (9, 9)))], _)) (b := true) (by decide +kernel) rfl rfl ?_
  refine z_obj Z ol9_1 ol_in ol_cd ⟨by exact Nat.le_of_ble_eq_true rfl, by exact Nat.le_of_ble_eq_true rfl⟩ (by decide +kernel) ?_
  exact zret_c Z hA hE (by decide +kernel)
def mk9_46 (M : zM) : zM := M
set_option maxRecDepth 100000 in
theorem ct9_46 {l : Launch} {D : va_G} {ad : zR → Nat} {ca : Nat → ClassId} {A : Nat → Prop} {base : Nat} (hW : zWh zUC base ad A) (M : zM) : zMetC l yX9_init cX9_init 1 1 0 0 12 [.inr (.inr (some (9, 46)))] (base + 112) (zGt zUC D ad ca A 112) M (zGt zUC D ad ca A 112) (mk9_46 M) := by
  refine zMetC_of (zGt_ok hW _) rfl tbK9_ok rfl rfl (by decide +kernel) (Nat.le_of_ble_eq_true rfl) (fun X _ Z hA hE => ?_)
  obtain ⟨p, l', e, R, s, m, args, below, meth, c, Q⟩ := X
  obtain ⟨hR, -, hin, hs, ho1, ho2⟩ := id hA
  subst hR
  refine zblq Z rfl [(.aload 0, 1)] (S' := (1, [(0, .inr (.inr (some (9, 46))))], [.inr (.inr (some (9, 46)))], _)) (b := true) (by decide +kernel) rfl rfl ?_
  refine z_obj Z ol9_1 ol_in ol_cd ⟨by exact Nat.le_of_ble_eq_true rfl, by exact Nat.le_of_ble_eq_true rfl⟩ (by decide +kernel) ?_
  exact zret_c Z hA hE (by decide +kernel)
def mk9_47 (M : zM) : zM := M
set_option maxRecDepth 100000 in
theorem ct9_47 {l : Launch} {D : va_G} {ad : zR → Nat} {ca : Nat → ClassId} {A : Nat → Prop} {base : Nat} (hW : zWh zUC base ad A) (M : zM) : zMetC l yX9_init cX9_init 1 1 0 0 12 [.inr (.inr (some (9, 47)))] (base + 113) (zGt zUC D ad ca A 113) M (zGt zUC D ad ca A 113) (mk9_47 M) := by
  refine zMetC_of (zGt_ok hW _) rfl tbK9_ok rfl rfl (by decide +kernel) (Nat.le_of_ble_eq_true rfl) (fun X _ Z hA hE => ?_)
  obtain ⟨p, l', e, R, s, m, args, below, meth, c, Q⟩ := X
  obtain ⟨hR, -, hin, hs, ho1, ho2⟩ := id hA
  subst hR
  refine zblq Z rfl [(.aload 0, 1)] (S' := (1, [(0, .inr (.inr (some (9, 47))))], [.inr (.inr (some (9, 47)))], _)) (b := true) (by decide +kernel) rfl rfl ?_
  refine z_obj Z ol9_1 ol_in ol_cd ⟨by exact Nat.le_of_ble_eq_true rfl, by exact Nat.le_of_ble_eq_true rfl⟩ (by decide +kernel) ?_
  exact zret_c Z hA hE (by decide +kernel)
def mk9_48 (M : zM) : zM := M
set_option maxRecDepth 100000 in
theorem ct9_48 {l : Launch} {D : va_G} {ad : zR → Nat} {ca : Nat → ClassId} {A : Nat → Prop} {base : Nat} (hW : zWh zUC base ad A) (M : zM) : zMetC l yX9_init cX9_init 1 1 0 0 12 [.inr (.inr (some (9, 48)))] (base + 114) (zGt zUC D ad ca A 114) M (zGt zUC D ad ca A 114) (mk9_48 M) := by
  refine zMetC_of (zGt_ok hW _) rfl tbK9_ok rfl rfl (by decide +kernel) (Nat.le_of_ble_eq_true rfl) (fun X _ Z hA hE => ?_)
  obtain ⟨p, l', e, R, s, m, args, below, meth, c, Q⟩ := X
  obtain ⟨hR, -, hin, hs, ho1, ho2⟩ := id hA
  subst hR
  refine zblq Z rfl [(.aload 0, 1)] (S' := (1, [(0, .inr (.inr (some (9, 48))))], [.inr (.inr (some (9, 48)))], _)) (b := true) (by decide +kernel) rfl rfl ?_
  refine z_obj Z ol9_1 ol_in ol_cd ⟨by exact Nat.le_of_ble_eq_true rfl, by exact Nat.le_of_ble_eq_true rfl⟩ (by decide +kernel) ?_
  exact zret_c Z hA hE (by decide +kernel)
def mk9_49 (M : zM) : zM := M
set_option maxRecDepth 100000 in
theorem ct9_49 {l : Launch} {D : va_G} {ad : zR → Nat} {ca : Nat → ClassId} {A : Nat → Prop} {base : Nat} (hW : zWh zUC base ad A) (M : zM) : zMetC l yX9_init cX9_init 1 1 0 0 12 [.inr (.inr (some (9, 49)))] (base + 115) (zGt zUC D ad ca A 115) M (zGt zUC D ad ca A 115) (mk9_49 M) := by
  refine zMetC_of (zGt_ok hW _) rfl tbK9_ok rfl rfl (by decide +kernel) (Nat.le_of_ble_eq_true rfl) (fun X _ Z hA hE => ?_)
  obtain ⟨p, l', e, R, s, m, args, below, meth, c, Q⟩ := X
  obtain ⟨hR, -, hin, hs, ho1, ho2⟩ := id hA
  subst hR
  refine zblq Z rfl [(.aload 0, 1)] (S' := (1, [(0, .inr (.inr (some (9, 49))))], [.inr (.inr (some (9, 49)))], _)) (b := true) (by decide +kernel) rfl rfl ?_
  refine z_obj Z ol9_1 ol_in ol_cd ⟨by exact Nat.le_of_ble_eq_true rfl, by exact Nat.le_of_ble_eq_true rfl⟩ (by decide +kernel) ?_
  exact zret_c Z hA hE (by decide +kernel)
def mk8_9 (M : zM) : zM := zwF (mk9_49 (zclr (zwF (mk9_48 (zclr (zwF (mk9_47 (zclr (zwF (mk9_46 (zclr (zwF (zclr (zwF (zclr M 900 9) 8 9 0 (900, 9)) 901 9) 8 9 1 (901, 9)) 9 46)) 901 9 0 (9, 46)) 9 47)) 901 9 1 (9, 47)) 9 48)) 901 9 2 (9, 48)) 9 49)) 901 9 3 (9, 49)
set_option maxRecDepth 100000 in
theorem ct8_9 {l : Launch} {D : va_G} {ad : zR → Nat} {ca : Nat → ClassId} {A : Nat → Prop} {base : Nat} (hW : zWh zUC base ad A) (M : zM) : zMetC l yX8_init cX8_init 2 2 6 28 32 [.inr (.inr (some (8, 9)))] (base + 109) (zGt zUC D ad ca A 109) M (zGt zUC D ad ca A 115) (mk8_9 M) := by
  refine zMetC_of (zGt_ok hW _) rfl tbK8_ok rfl rfl (by decide +kernel) (Nat.le_of_ble_eq_true rfl) (fun X _ Z hA hE => ?_)
  obtain ⟨p, l', e, R, s, m, args, below, meth, c, Q⟩ := X
  obtain ⟨hR, -, hin, hs, ho1, ho2⟩ := id hA
  subst hR
  refine zblq Z rfl [(.aload 0, 1)] (S' := (1, [(0, .inr (.inr (some (8, 9))))], [.inr (.inr (some (8, 9)))], _)) (b := true) (by decide +kernel) rfl rfl ?_
  refine z_obj Z ol8_1 ol_in ol_cd ⟨by exact Nat.le_of_ble_eq_true rfl, by exact Nat.le_of_ble_eq_true rfl⟩ (by decide +kernel) ?_
  refine zblq Z rfl [(.aload 0, 1), (.iconst 4, 1)] (S' := (6, [(0, .inr (.inr (some (8, 9))))], [.inl (4 : Int32), .inr (.inr (some (8, 9)))], _)) (b := true) (by decide +kernel) rfl rfl ?_
  refine c_newa (n := 0) hW hs rfl (kk := 900) (i := 9) rfl Z (Or.inl ⟨rfl, rfl⟩) rfl acl_0 (by decide) ⟨by exact Nat.le_of_ble_eq_true rfl, by exact Nat.le_of_ble_eq_true rfl⟩ (by decide +kernel) ?_
  replace Z := c_Z Z hW 110
  refine c_putR Z (idx := 9) (ss := 0) (zmU (j := 108) rfl (by decide)) (by decide) (by decide) rfl (by decide +kernel) (Or.inr ⟨rfl, hin, rfl⟩) (by decide +kernel) ?_
  refine zblq Z rfl [(.aload 0, 1), (.iconst 4, 1)] (S' := (13, [(0, .inr (.inr (some (8, 9))))], [.inl (4 : Int32), .inr (.inr (some (8, 9)))], _)) (b := true) (by decide +kernel) rfl rfl ?_
  refine c_newq (n := 1) hW hs rfl (kk := 901) (i := 9) (C0 := "EarField$Sum") rfl Z (Or.inr ⟨rfl, rfl⟩) rfl lk8_13 ho2 (by decide) ⟨by exact Nat.le_of_ble_eq_true rfl, by exact Nat.le_of_ble_eq_true rfl⟩ (by decide +kernel) ?_
  replace Z := c_Z Z hW 111
  refine c_putR Z (idx := 15) (ss := 1) (zmU (j := 108) rfl (by decide)) (by decide) (by decide) rfl (by decide +kernel) (Or.inr ⟨rfl, hin, rfl⟩) (by decide +kernel) ?_
  refine zblq Z rfl [(.iconst 0, 1), (.istore 1, 1), (.iload 1, 1), (.iconst 4, 1)] (S' := (23, [(0, .inr (.inr (some (8, 9)))), (1, .inl (0 : Int32))], [.inl (4 : Int32), .inl (0 : Int32)], _)) (b := true) (by decide +kernel) rfl rfl ?_
  refine zic_ge Z (off := 22) (tgt := 45) (by decide +kernel) (by decide) (fun h => absurd h (by decide)) (fun _ => ?_)
  refine zblq Z rfl [(.aload 0, 1)] (S' := (27, [(0, .inr (.inr (some (8, 9)))), (1, .inl (0 : Int32))], [.inr (.inr (some (8, 9)))], _)) (b := true) (by decide +kernel) rfl rfl ?_
  refine c_getR Z (idx := 15) (ss := 1) (r := (901, 9)) (zmU (j := 108) rfl (by decide)) (by decide) (by decide) rfl (by decide +kernel) rfl (by decide +kernel) ?_
  refine zblq Z rfl [(.iload 1, 1)] (S' := (31, [(0, .inr (.inr (some (8, 9)))), (1, .inl (0 : Int32))], [.inl (0 : Int32), .inr (.inr (some (901, 9)))], _)) (b := true) (by decide +kernel) rfl rfl ?_
  refine c_new (n := 2) hW hs rfl (kk := 9) (i := 46) rfl Z (by decide) lk8_13 ist_9 ini_9 ⟨by exact Nat.le_of_ble_eq_true rfl, by exact Nat.le_of_ble_eq_true rfl⟩ (by decide +kernel) ?_
  replace Z := c_Z Z hW 112
  refine zblq Z rfl [(.dup, 1)] (S' := (35, [(0, .inr (.inr (some (8, 9)))), (1, .inl (0 : Int32))], [.inr (.inr (some (9, 46))), .inr (.inr (some (9, 46))), .inl (0 : Int32), .inr (.inr (some (901, 9)))], _)) (b := true) (by decide +kernel) rfl rfl ?_
  refine c_call (n := 3) hW hs rfl (by decide +kernel) Z (as := []) (st := [.inr (.inr (some (9, 46))), .inl (0 : Int32), .inr (.inr (some (901, 9)))]) (mc := 0) (ms := 0) (ct9_46 hW _) ho1 ho2 cwi8_19 mi9_in rfl rfl ⟨by exact Nat.le_of_ble_eq_true rfl, by exact Nat.le_of_ble_eq_true rfl⟩ rfl (by decide +kernel) ⟨by exact Nat.le_of_ble_eq_true rfl, by exact Nat.le_of_ble_eq_true rfl⟩ ?_
  replace Z := c_Z Z hW 112
  refine c_aast Z (t := 3) (jn := 0) (zmU (j := 110) rfl (by decide)) (zmU (j := 111) rfl (by decide)) ⟨rfl, Or.inr ⟨rfl, rfl⟩⟩ (by decide) (by decide) (by decide +kernel) ?_
  refine zblq Z rfl [(.iinc 1 1, 3), (.ldc 21, 3), (.iload 1, 1), (.iconst 4, 1)] (S' := (23, [(0, .inr (.inr (some (8, 9)))), (1, .inl (1 : Int32))], [.inl (4 : Int32), .inl (1 : Int32)], _)) (b := true) (by decide +kernel) rfl rfl ?_
  refine zic_ge Z (off := 22) (tgt := 45) (by decide +kernel) (by decide) (fun h => absurd h (by decide)) (fun _ => ?_)
  refine zblq Z rfl [(.aload 0, 1)] (S' := (27, [(0, .inr (.inr (some (8, 9)))), (1, .inl (1 : Int32))], [.inr (.inr (some (8, 9)))], _)) (b := true) (by decide +kernel) rfl rfl ?_
  refine c_getR Z (idx := 15) (ss := 1) (r := (901, 9)) (zmU (j := 108) rfl (by decide)) (by decide) (by decide) rfl (by decide +kernel) rfl (by decide +kernel) ?_
  refine zblq Z rfl [(.iload 1, 1)] (S' := (31, [(0, .inr (.inr (some (8, 9)))), (1, .inl (1 : Int32))], [.inl (1 : Int32), .inr (.inr (some (901, 9)))], _)) (b := true) (by decide +kernel) rfl rfl ?_
  refine c_new (n := 3) hW hs rfl (kk := 9) (i := 47) rfl Z (by decide) lk8_13 ist_9 ini_9 ⟨by exact Nat.le_of_ble_eq_true rfl, by exact Nat.le_of_ble_eq_true rfl⟩ (by decide +kernel) ?_
  replace Z := c_Z Z hW 113
  refine zblq Z rfl [(.dup, 1)] (S' := (35, [(0, .inr (.inr (some (8, 9)))), (1, .inl (1 : Int32))], [.inr (.inr (some (9, 47))), .inr (.inr (some (9, 47))), .inl (1 : Int32), .inr (.inr (some (901, 9)))], _)) (b := true) (by decide +kernel) rfl rfl ?_
  refine c_call (n := 4) hW hs rfl (by decide +kernel) Z (as := []) (st := [.inr (.inr (some (9, 47))), .inl (1 : Int32), .inr (.inr (some (901, 9)))]) (mc := 0) (ms := 0) (ct9_47 hW _) ho1 ho2 cwi8_19 mi9_in rfl rfl ⟨by exact Nat.le_of_ble_eq_true rfl, by exact Nat.le_of_ble_eq_true rfl⟩ rfl (by decide +kernel) ⟨by exact Nat.le_of_ble_eq_true rfl, by exact Nat.le_of_ble_eq_true rfl⟩ ?_
  replace Z := c_Z Z hW 113
  refine c_aast Z (t := 3) (jn := 1) (zmU (j := 110) rfl (by decide)) (zmU (j := 112) rfl (by decide)) ⟨rfl, Or.inr ⟨rfl, rfl⟩⟩ (by decide) (by decide) (by decide +kernel) ?_
  refine zblq Z rfl [(.iinc 1 1, 3), (.ldc 21, 3), (.iload 1, 1), (.iconst 4, 1)] (S' := (23, [(0, .inr (.inr (some (8, 9)))), (1, .inl (2 : Int32))], [.inl (4 : Int32), .inl (2 : Int32)], _)) (b := true) (by decide +kernel) rfl rfl ?_
  refine zic_ge Z (off := 22) (tgt := 45) (by decide +kernel) (by decide) (fun h => absurd h (by decide)) (fun _ => ?_)
  refine zblq Z rfl [(.aload 0, 1)] (S' := (27, [(0, .inr (.inr (some (8, 9)))), (1, .inl (2 : Int32))], [.inr (.inr (some (8, 9)))], _)) (b := true) (by decide +kernel) rfl rfl ?_
  refine c_getR Z (idx := 15) (ss := 1) (r := (901, 9)) (zmU (j := 108) rfl (by decide)) (by decide) (by decide) rfl (by decide +kernel) rfl (by decide +kernel) ?_
  refine zblq Z rfl [(.iload 1, 1)] (S' := (31, [(0, .inr (.inr (some (8, 9)))), (1, .inl (2 : Int32))], [.inl (2 : Int32), .inr (.inr (some (901, 9)))], _)) (b := true) (by decide +kernel) rfl rfl ?_
  refine c_new (n := 4) hW hs rfl (kk := 9) (i := 48) rfl Z (by decide) lk8_13 ist_9 ini_9 ⟨by exact Nat.le_of_ble_eq_true rfl, by exact Nat.le_of_ble_eq_true rfl⟩ (by decide +kernel) ?_
  replace Z := c_Z Z hW 114
  refine zblq Z rfl [(.dup, 1)] (S' := (35, [(0, .inr (.inr (some (8, 9)))), (1, .inl (2 : Int32))], [.inr (.inr (some (9, 48))), .inr (.inr (some (9, 48))), .inl (2 : Int32), .inr (.inr (some (901, 9)))], _)) (b := true) (by decide +kernel) rfl rfl ?_
  refine c_call (n := 5) hW hs rfl (by decide +kernel) Z (as := []) (st := [.inr (.inr (some (9, 48))), .inl (2 : Int32), .inr (.inr (some (901, 9)))]) (mc := 0) (ms := 0) (ct9_48 hW _) ho1 ho2 cwi8_19 mi9_in rfl rfl ⟨by exact Nat.le_of_ble_eq_true rfl, by exact Nat.le_of_ble_eq_true rfl⟩ rfl (by decide +kernel) ⟨by exact Nat.le_of_ble_eq_true rfl, by exact Nat.le_of_ble_eq_true rfl⟩ ?_
  replace Z := c_Z Z hW 114
  refine c_aast Z (t := 3) (jn := 2) (zmU (j := 110) rfl (by decide)) (zmU (j := 113) rfl (by decide)) ⟨rfl, Or.inr ⟨rfl, rfl⟩⟩ (by decide) (by decide) (by decide +kernel) ?_
  refine zblq Z rfl [(.iinc 1 1, 3), (.ldc 21, 3), (.iload 1, 1), (.iconst 4, 1)] (S' := (23, [(0, .inr (.inr (some (8, 9)))), (1, .inl (3 : Int32))], [.inl (4 : Int32), .inl (3 : Int32)], _)) (b := true) (by decide +kernel) rfl rfl ?_
  refine zic_ge Z (off := 22) (tgt := 45) (by decide +kernel) (by decide) (fun h => absurd h (by decide)) (fun _ => ?_)
  refine zblq Z rfl [(.aload 0, 1)] (S' := (27, [(0, .inr (.inr (some (8, 9)))), (1, .inl (3 : Int32))], [.inr (.inr (some (8, 9)))], _)) (b := true) (by decide +kernel) rfl rfl ?_
  refine c_getR Z (idx := 15) (ss := 1) (r := (901, 9)) (zmU (j := 108) rfl (by decide)) (by decide) (by decide) rfl (by decide +kernel) rfl (by decide +kernel) ?_
  refine zblq Z rfl [(.iload 1, 1)] (S' := (31, [(0, .inr (.inr (some (8, 9)))), (1, .inl (3 : Int32))], [.inl (3 : Int32), .inr (.inr (some (901, 9)))], _)) (b := true) (by decide +kernel) rfl rfl ?_
  refine c_new (n := 5) hW hs rfl (kk := 9) (i := 49) rfl Z (by decide) lk8_13 ist_9 ini_9 ⟨by exact Nat.le_of_ble_eq_true rfl, by exact Nat.le_of_ble_eq_true rfl⟩ (by decide +kernel) ?_
  replace Z := c_Z Z hW 115
  refine zblq Z rfl [(.dup, 1)] (S' := (35, [(0, .inr (.inr (some (8, 9)))), (1, .inl (3 : Int32))], [.inr (.inr (some (9, 49))), .inr (.inr (some (9, 49))), .inl (3 : Int32), .inr (.inr (some (901, 9)))], _)) (b := true) (by decide +kernel) rfl rfl ?_
  refine c_call (n := 6) hW hs rfl (by decide +kernel) Z (as := []) (st := [.inr (.inr (some (9, 49))), .inl (3 : Int32), .inr (.inr (some (901, 9)))]) (mc := 0) (ms := 0) (ct9_49 hW _) ho1 ho2 cwi8_19 mi9_in rfl rfl ⟨by exact Nat.le_of_ble_eq_true rfl, by exact Nat.le_of_ble_eq_true rfl⟩ rfl (by decide +kernel) ⟨by exact Nat.le_of_ble_eq_true rfl, by exact Nat.le_of_ble_eq_true rfl⟩ ?_
  replace Z := c_Z Z hW 115
  refine c_aast Z (t := 3) (jn := 3) (zmU (j := 110) rfl (by decide)) (zmU (j := 114) rfl (by decide)) ⟨rfl, Or.inr ⟨rfl, rfl⟩⟩ (by decide) (by decide) (by decide +kernel) ?_
  refine zblq Z rfl [(.iinc 1 1, 3), (.ldc 21, 3), (.iload 1, 1), (.iconst 4, 1)] (S' := (23, [(0, .inr (.inr (some (8, 9)))), (1, .inl (4 : Int32))], [.inl (4 : Int32), .inl (4 : Int32)], _)) (b := true) (by decide +kernel) rfl rfl ?_
  refine zic_ge Z (off := 22) (tgt := 45) (by decide +kernel) (by decide) (fun _ => ?_) (fun h => absurd (by decide) h)
  exact zret_c Z hA hE (by decide +kernel)
def mk2_9 (M : zM) : zM := zfl (zwI (zwF (zclr (zwF (mk8_9 (zclr (zwF (mk9_9 (zclr (zwF (zclr (zwI (zwI (zwI (zwI (zwI (zwI M 2 9 3 (1 : Int32)) 2 9 4 (1 : Int32)) 2 9 7 (-1 : Int32)) 2 9 8 (-1 : Int32)) 2 9 10 (16 : Int32)) 2 9 11 (36 : Int32)) 312 9) 2 9 12 (312, 9)) 9 9)) 2 9 13 (9, 9)) 8 9)) 2 9 15 (8, 9)) 317 9) 2 9 17 (317, 9)) 2 9 0 (9 : Int32)) 312 9 (zak 312).2 (16 : Int32)
set_option maxRecDepth 100000 in
theorem ct2_9 {l : Launch} {D : va_G} {ad : zR → Nat} {ca : Nat → ClassId} {A : Nat → Prop} {base : Nat} (hW : zWh zUC base ad A) (M : zM) : zMetC l yX2_init cX2_init 2 3 10 68 53 [.inr (.inr (some (2, 9))), .inl (9 : Int32)] (base + 106) (zGt zUC D ad ca A 106) M (zGt zUC D ad ca A 116) (mk2_9 M) := by
  refine zMetC_of (zGt_ok hW _) rfl tbK2_ok rfl rfl (by decide +kernel) (Nat.le_of_ble_eq_true rfl) (fun X _ Z hA hE => ?_)
  obtain ⟨p, l', e, R, s, m, args, below, meth, c, Q⟩ := X
  obtain ⟨hR, -, hin, hs, ho1, ho2⟩ := id hA
  subst hR
  refine zblq Z rfl [(.aload 0, 1)] (S' := (1, [(0, .inr (.inr (some (2, 9)))), (1, .inl (9 : Int32))], [.inr (.inr (some (2, 9)))], _)) (b := true) (by decide +kernel) rfl rfl ?_
  refine z_obj Z ol2_3 ol_in ol_cd ⟨by exact Nat.le_of_ble_eq_true rfl, by exact Nat.le_of_ble_eq_true rfl⟩ (by decide +kernel) ?_
  refine zblq Z rfl [(.aload 0, 1), (.iconst 1, 1)] (S' := (6, [(0, .inr (.inr (some (2, 9)))), (1, .inl (9 : Int32))], [.inl (1 : Int32), .inr (.inr (some (2, 9)))], _)) (b := true) (by decide +kernel) rfl rfl ?_
  refine c_putI Z (idx := 9) (ss := 3) (zmU (j := 105) rfl (by decide)) (by decide) (by decide) rfl (by decide +kernel) rfl (by decide +kernel) ?_
  refine zblq Z rfl [(.aload 0, 1), (.iconst 1, 1)] (S' := (11, [(0, .inr (.inr (some (2, 9)))), (1, .inl (9 : Int32))], [.inl (1 : Int32), .inr (.inr (some (2, 9)))], _)) (b := true) (by decide +kernel) rfl rfl ?_
  refine c_putI Z (idx := 15) (ss := 4) (zmU (j := 105) rfl (by decide)) (by decide) (by decide) rfl (by decide +kernel) rfl (by decide +kernel) ?_
  refine zblq Z rfl [(.aload 0, 1), (.iconst (-1), 1)] (S' := (16, [(0, .inr (.inr (some (2, 9)))), (1, .inl (9 : Int32))], [.inl (-1 : Int32), .inr (.inr (some (2, 9)))], _)) (b := true) (by decide +kernel) rfl rfl ?_
  refine c_putI Z (idx := 18) (ss := 7) (zmU (j := 105) rfl (by decide)) (by decide) (by decide) rfl (by decide +kernel) rfl (by decide +kernel) ?_
  refine zblq Z rfl [(.aload 0, 1), (.iconst (-1), 1)] (S' := (21, [(0, .inr (.inr (some (2, 9)))), (1, .inl (9 : Int32))], [.inl (-1 : Int32), .inr (.inr (some (2, 9)))], _)) (b := true) (by decide +kernel) rfl rfl ?_
  refine c_putI Z (idx := 21) (ss := 8) (zmU (j := 105) rfl (by decide)) (by decide) (by decide) rfl (by decide +kernel) rfl (by decide +kernel) ?_
  refine zblq Z rfl [(.aload 0, 1), (.iconst 16, 2)] (S' := (27, [(0, .inr (.inr (some (2, 9)))), (1, .inl (9 : Int32))], [.inl (16 : Int32), .inr (.inr (some (2, 9)))], _)) (b := true) (by decide +kernel) rfl rfl ?_
  refine c_putI Z (idx := 24) (ss := 10) (zmU (j := 105) rfl (by decide)) (by decide) (by decide) rfl (by decide +kernel) rfl (by decide +kernel) ?_
  refine zblq Z rfl [(.aload 0, 1), (.iconst 36, 2)] (S' := (33, [(0, .inr (.inr (some (2, 9)))), (1, .inl (9 : Int32))], [.inl (36 : Int32), .inr (.inr (some (2, 9)))], _)) (b := true) (by decide +kernel) rfl rfl ?_
  refine c_putI Z (idx := 27) (ss := 11) (zmU (j := 105) rfl (by decide)) (by decide) (by decide) rfl (by decide +kernel) rfl (by decide +kernel) ?_
  refine zblq Z rfl [(.aload 0, 1), (.iconst 24, 2)] (S' := (39, [(0, .inr (.inr (some (2, 9)))), (1, .inl (9 : Int32))], [.inl (24 : Int32), .inr (.inr (some (2, 9)))], _)) (b := true) (by decide +kernel) rfl rfl ?_
  refine c_newa (n := 0) hW hs rfl (kk := 312) (i := 9) rfl Z (Or.inl ⟨rfl, rfl⟩) rfl acl_0 (by decide) ⟨by exact Nat.le_of_ble_eq_true rfl, by exact Nat.le_of_ble_eq_true rfl⟩ (by decide +kernel) ?_
  replace Z := c_Z Z hW 107
  refine c_putR Z (idx := 30) (ss := 12) (zmU (j := 105) rfl (by decide)) (by decide) (by decide) rfl (by decide +kernel) (Or.inr ⟨rfl, hin, rfl⟩) (by decide +kernel) ?_
  refine zblq Z rfl [(.aload 0, 1)] (S' := (45, [(0, .inr (.inr (some (2, 9)))), (1, .inl (9 : Int32))], [.inr (.inr (some (2, 9)))], _)) (b := true) (by decide +kernel) rfl rfl ?_
  refine c_new (n := 1) hW hs rfl (kk := 9) (i := 9) rfl Z (by decide) lk2_34 ist_9 ini_9 ⟨by exact Nat.le_of_ble_eq_true rfl, by exact Nat.le_of_ble_eq_true rfl⟩ (by decide +kernel) ?_
  replace Z := c_Z Z hW 108
  refine zblq Z rfl [(.dup, 1)] (S' := (49, [(0, .inr (.inr (some (2, 9)))), (1, .inl (9 : Int32))], [.inr (.inr (some (9, 9))), .inr (.inr (some (9, 9))), .inr (.inr (some (2, 9)))], _)) (b := true) (by decide +kernel) rfl rfl ?_
  refine c_call (n := 2) hW hs rfl (by decide +kernel) Z (as := []) (st := [.inr (.inr (some (9, 9))), .inr (.inr (some (2, 9)))]) (mc := 0) (ms := 0) (ct9_9 hW _) ho1 ho2 cwi2_36 mi9_in rfl rfl ⟨by exact Nat.le_of_ble_eq_true rfl, by exact Nat.le_of_ble_eq_true rfl⟩ rfl (by decide +kernel) ⟨by exact Nat.le_of_ble_eq_true rfl, by exact Nat.le_of_ble_eq_true rfl⟩ ?_
  replace Z := c_Z Z hW 108
  refine c_putR Z (idx := 37) (ss := 13) (zmU (j := 105) rfl (by decide)) (by decide) (by decide) rfl (by decide +kernel) (Or.inr ⟨rfl, hin, rfl⟩) (by decide +kernel) ?_
  refine zblq Z rfl [(.aload 0, 1)] (S' := (56, [(0, .inr (.inr (some (2, 9)))), (1, .inl (9 : Int32))], [.inr (.inr (some (2, 9)))], _)) (b := true) (by decide +kernel) rfl rfl ?_
  refine c_new (n := 2) hW hs rfl (kk := 8) (i := 9) rfl Z (by decide) lk2_41 ist_8 ini_8 ⟨by exact Nat.le_of_ble_eq_true rfl, by exact Nat.le_of_ble_eq_true rfl⟩ (by decide +kernel) ?_
  replace Z := c_Z Z hW 109
  refine zblq Z rfl [(.dup, 1)] (S' := (60, [(0, .inr (.inr (some (2, 9)))), (1, .inl (9 : Int32))], [.inr (.inr (some (8, 9))), .inr (.inr (some (8, 9))), .inr (.inr (some (2, 9)))], _)) (b := true) (by decide +kernel) rfl rfl ?_
  refine c_call (n := 3) hW hs rfl (by decide +kernel) Z (as := []) (st := [.inr (.inr (some (8, 9))), .inr (.inr (some (2, 9)))]) (mc := 6) (ms := 28) (ct8_9 hW _) ho1 ho2 cwi2_43 mi8_in rfl rfl ⟨by exact Nat.le_of_ble_eq_true rfl, by exact Nat.le_of_ble_eq_true rfl⟩ rfl (by decide +kernel) ⟨by exact Nat.le_of_ble_eq_true rfl, by exact Nat.le_of_ble_eq_true rfl⟩ ?_
  replace Z := c_Z Z hW 115
  refine c_putR Z (idx := 44) (ss := 15) (zmU (j := 105) rfl (by decide)) (by decide) (by decide) rfl (by decide +kernel) (Or.inr ⟨rfl, hin, rfl⟩) (by decide +kernel) ?_
  refine zblq Z rfl [(.aload 0, 1), (.iconst 8, 2)] (S' := (69, [(0, .inr (.inr (some (2, 9)))), (1, .inl (9 : Int32))], [.inl (8 : Int32), .inr (.inr (some (2, 9)))], _)) (b := true) (by decide +kernel) rfl rfl ?_
  refine c_newa (n := 9) hW hs rfl (kk := 317) (i := 9) rfl Z (Or.inl ⟨rfl, rfl⟩) rfl acl_0 (by decide) ⟨by exact Nat.le_of_ble_eq_true rfl, by exact Nat.le_of_ble_eq_true rfl⟩ (by decide +kernel) ?_
  replace Z := c_Z Z hW 116
  refine c_putR Z (idx := 50) (ss := 17) (zmU (j := 105) rfl (by decide)) (by decide) (by decide) rfl (by decide +kernel) (Or.inr ⟨rfl, hin, rfl⟩) (by decide +kernel) ?_
  refine zblq Z rfl [(.aload 0, 1), (.iload 1, 1)] (S' := (76, [(0, .inr (.inr (some (2, 9)))), (1, .inl (9 : Int32))], [.inl (9 : Int32), .inr (.inr (some (2, 9)))], _)) (b := true) (by decide +kernel) rfl rfl ?_
  refine c_putF Z (idx := 53) (ss := 0) (zmU (j := 105) rfl (by decide)) (by decide) (by decide) rfl (by decide +kernel) ⟨rfl, hin, rfl⟩ (by decide +kernel) ?_
  refine zblq Z rfl [(.aload 0, 1)] (S' := (80, [(0, .inr (.inr (some (2, 9)))), (1, .inl (9 : Int32))], [.inr (.inr (some (2, 9)))], _)) (b := true) (by decide +kernel) rfl rfl ?_
  refine c_getR Z (idx := 30) (ss := 12) (r := (312, 9)) (zmU (j := 105) rfl (by decide)) (by decide) (by decide) rfl (by decide +kernel) rfl (by decide +kernel) ?_
  refine zblq Z rfl [(.iconst 16, 2)] (S' := (85, [(0, .inr (.inr (some (2, 9)))), (1, .inl (9 : Int32))], [.inl (16 : Int32), .inr (.inr (some (312, 9)))], _)) (b := true) (by decide +kernel) rfl rfl ?_
  refine zcallS Z (as := [.inr (.inr (some (312, 9))), .inl (16 : Int32)]) (st := []) (c_fill (zGt_ok hW _) (zmU (j := 106) rfl (by decide)) rfl (by decide)) cwi2_56 mJ7_fill_in rfl ⟨by exact Nat.le_of_ble_eq_true rfl, by exact Nat.le_of_ble_eq_true rfl⟩ rfl (by decide +kernel) ⟨by exact Nat.le_of_ble_eq_true rfl, by exact Nat.le_of_ble_eq_true rfl⟩ ?_
  exact zret_c Z hA hE (by decide +kernel)
