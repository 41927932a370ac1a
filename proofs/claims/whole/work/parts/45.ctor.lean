def mk2_3 (M : zM) : zM := zfl (zwI (zwF (zclr (zwF (mk8_3 (zclr (zwF (mk9_3 (zclr (zwF (zclr (zwI (zwI (zwI (zwI (zwI (zwI M 2 3 3 (1 : Int32)) 2 3 4 (1 : Int32)) 2 3 7 (-1 : Int32)) 2 3 8 (-1 : Int32)) 2 3 10 (16 : Int32)) 2 3 11 (36 : Int32)) 312 3) 2 3 12 (312, 3)) 9 3)) 2 3 13 (9, 3)) 8 3)) 2 3 15 (8, 3)) 317 3) 2 3 17 (317, 3)) 2 3 0 (3 : Int32)) 312 3 (zak 312).2 (16 : Int32)
set_option maxRecDepth 100000 in
theorem ct2_3 {l : Launch} {D : va_G} {ad : zR → Nat} {ca : Nat → ClassId} {A : Nat → Prop} {base : Nat} (hW : zWh zUC base ad A) (M : zM) : zMetC l yX2_init cX2_init 2 3 10 68 53 [.inr (.inr (some (2, 3))), .inl (3 : Int32)] (base + 40) (zGt zUC D ad ca A 40) M (zGt zUC D ad ca A 50) (mk2_3 M) := by
  refine zMetC_of (zGt_ok hW _) rfl tbK2_ok rfl rfl (by decide +kernel) (Nat.le_of_ble_eq_true rfl) (fun X _ Z hA hE => ?_)
  obtain ⟨p, l', e, R, s, m, args, below, meth, c, Q⟩ := X
  obtain ⟨hR, -, hin, hs, ho1, ho2⟩ := id hA
  subst hR
  refine zblq Z rfl [(.aload 0, 1)] (S' := (1, [(0, .inr (.inr (some (2, 3)))), (1, .inl (3 : Int32))], [.inr (.inr (some (2, 3)))], _)) (b := true) (by decide +kernel) rfl rfl ?_
  refine z_obj Z ol2_3 ol_in ol_cd ⟨by exact Nat.le_of_ble_eq_true rfl, by exact Nat.le_of_ble_eq_true rfl⟩ (by decide +kernel) ?_
  refine zblq Z rfl [(.aload 0, 1), (.iconst 1, 1)] (S' := (6, [(0, .inr (.inr (some (2, 3)))), (1, .inl (3 : Int32))], [.inl (1 : Int32), .inr (.inr (some (2, 3)))], _)) (b := true) (by decide +kernel) rfl rfl ?_
  refine c_putI Z (idx := 9) (ss := 3) (zmU (j := 39) rfl (by decide)) (by decide) (by decide) rfl (by decide +kernel) rfl (by decide +kernel) ?_
  refine zblq Z rfl [(.aload 0, 1), (.iconst 1, 1)] (S' := (11, [(0, .inr (.inr (some (2, 3)))), (1, .inl (3 : Int32))], [.inl (1 : Int32), .inr (.inr (some (2, 3)))], _)) (b := true) (by decide +kernel) rfl rfl ?_
  refine c_putI Z (idx := 15) (ss := 4) (zmU (j := 39) rfl (by decide)) (by decide) (by decide) rfl (by decide +kernel) rfl (by decide +kernel) ?_
  refine zblq Z rfl [(.aload 0, 1), (.iconst (-1), 1)] (S' := (16, [(0, .inr (.inr (some (2, 3)))), (1, .inl (3 : Int32))], [.inl (-1 : Int32), .inr (.inr (some (2, 3)))], _)) (b := true) (by decide +kernel) rfl rfl ?_
  refine c_putI Z (idx := 18) (ss := 7) (zmU (j := 39) rfl (by decide)) (by decide) (by decide) rfl (by decide +kernel) rfl (by decide +kernel) ?_
  refine zblq Z rfl [(.aload 0, 1), (.iconst (-1), 1)] (S' := (21, [(0, .inr (.inr (some (2, 3)))), (1, .inl (3 : Int32))], [.inl (-1 : Int32), .inr (.inr (some (2, 3)))], _)) (b := true) (by decide +kernel) rfl rfl ?_
  refine c_putI Z (idx := 21) (ss := 8) (zmU (j := 39) rfl (by decide)) (by decide) (by decide) rfl (by decide +kernel) rfl (by decide +kernel) ?_
  refine zblq Z rfl [(.aload 0, 1), (.iconst 16, 2)] (S' := (27, [(0, .inr (.inr (some (2, 3)))), (1, .inl (3 : Int32))], [.inl (16 : Int32), .inr (.inr (some (2, 3)))], _)) (b := true) (by decide +kernel) rfl rfl ?_
  refine c_putI Z (idx := 24) (ss := 10) (zmU (j := 39) rfl (by decide)) (by decide) (by decide) rfl (by decide +kernel) rfl (by decide +kernel) ?_
  refine zblq Z rfl [(.aload 0, 1), (.iconst 36, 2)] (S' := (33, [(0, .inr (.inr (some (2, 3)))), (1, .inl (3 : Int32))], [.inl (36 : Int32), .inr (.inr (some (2, 3)))], _)) (b := true) (by decide +kernel) rfl rfl ?_
  refine c_putI Z (idx := 27) (ss := 11) (zmU (j := 39) rfl (by decide)) (by decide) (by decide) rfl (by decide +kernel) rfl (by decide +kernel) ?_
  refine zblq Z rfl [(.aload 0, 1), (.iconst 24, 2)] (S' := (39, [(0, .inr (.inr (some (2, 3)))), (1, .inl (3 : Int32))], [.inl (24 : Int32), .inr (.inr (some (2, 3)))], _)) (b := true) (by decide +kernel) rfl rfl ?_
  refine c_newa (n := 0) hW hs rfl (kk := 312) (i := 3) rfl Z (Or.inl ⟨rfl, rfl⟩) rfl acl_0 (by decide) ⟨by exact Nat.le_of_ble_eq_true rfl, by exact Nat.le_of_ble_eq_true rfl⟩ (by decide +kernel) ?_
  replace Z := c_Z Z hW 41
  refine c_putR Z (idx := 30) (ss := 12) (zmU (j := 39) rfl (by decide)) (by decide) (by decide) rfl (by decide +kernel) (Or.inr ⟨rfl, hin, rfl⟩) (by decide +kernel) ?_
  refine zblq Z rfl [(.aload 0, 1)] (S' := (45, [(0, .inr (.inr (some (2, 3)))), (1, .inl (3 : Int32))], [.inr (.inr (some (2, 3)))], _)) (b := true) (by decide +kernel) rfl rfl ?_
  refine c_new (n := 1) hW hs rfl (kk := 9) (i := 3) rfl Z (by decide) lk2_34 ist_9 ini_9 ⟨by exact Nat.le_of_ble_eq_true rfl, by exact Nat.le_of_ble_eq_true rfl⟩ (by decide +kernel) ?_
  replace Z := c_Z Z hW 42
  refine zblq Z rfl [(.dup, 1)] (S' := (49, [(0, .inr (.inr (some (2, 3)))), (1, .inl (3 : Int32))], [.inr (.inr (some (9, 3))), .inr (.inr (some (9, 3))), .inr (.inr (some (2, 3)))], _)) (b := true) (by decide +kernel) rfl rfl ?_
  refine c_call (n := 2) hW hs rfl (by decide +kernel) Z (as := []) (st := [.inr (.inr (some (9, 3))), .inr (.inr (some (2, 3)))]) (mc := 0) (ms := 0) (ct9_3 hW _) ho1 ho2 cwi2_36 mi9_in rfl rfl ⟨by exact Nat.le_of_ble_eq_true rfl, by exact Nat.le_of_ble_eq_true rfl⟩ rfl (by decide +kernel) ⟨by exact Nat.le_of_ble_eq_true rfl, by exact Nat.le_of_ble_eq_true rfl⟩ ?_
  replace Z := c_Z Z hW 42
  refine c_putR Z (idx := 37) (ss := 13) (zmU (j := 39) rfl (by decide)) (by decide) (by decide) rfl (by decide +kernel) (Or.inr ⟨rfl, hin, rfl⟩) (by decide +kernel) ?_
  refine zblq Z rfl [(.aload 0, 1)] (S' := (56, [(0, .inr (.inr (some (2, 3)))), (1, .inl (3 : Int32))], [.inr (.inr (some (2, 3)))], _)) (b := true) (by decide +kernel) rfl rfl ?_
  refine c_new (n := 2) hW hs rfl (kk := 8) (i := 3) rfl Z (by decide) lk2_41 ist_8 ini_8 ⟨by exact Nat.le_of_ble_eq_true rfl, by exact Nat.le_of_ble_eq_true rfl⟩ (by decide +kernel) ?_
  replace Z := c_Z Z hW 43
  refine zblq Z rfl [(.dup, 1)] (S' := (60, [(0, .inr (.inr (some (2, 3)))), (1, .inl (3 : Int32))], [.inr (.inr (some (8, 3))), .inr (.inr (some (8, 3))), .inr (.inr (some (2, 3)))], _)) (b := true) (by decide +kernel) rfl rfl ?_
  refine c_call (n := 3) hW hs rfl (by decide +kernel) Z (as := []) (st := [.inr (.inr (some (8, 3))), .inr (.inr (some (2, 3)))]) (mc := 6) (ms := 28) (ct8_3 hW _) ho1 ho2 cwi2_43 mi8_in rfl rfl ⟨by exact Nat.le_of_ble_eq_true rfl, by exact Nat.le_of_ble_eq_true rfl⟩ rfl (by decide +kernel) ⟨by exact Nat.le_of_ble_eq_true rfl, by exact Nat.le_of_ble_eq_true rfl⟩ ?_
  replace Z := c_Z Z hW 49
  refine c_putR Z (idx := 44) (ss := 15) (zmU (j := 39) rfl (by decide)) (by decide) (by decide) rfl (by decide +kernel) (Or.inr ⟨rfl, hin, rfl⟩) (by decide +kernel) ?_
  refine zblq Z rfl [(.aload 0, 1), (.iconst 8, 2)] (S' := (69, [(0, .inr (.inr (some (2, 3)))), (1, .inl (3 : Int32))], [.inl (8 : Int32), .inr (.inr (some (2, 3)))], _)) (b := true) (by decide +kernel) rfl rfl ?_
  refine c_newa (n := 9) hW hs rfl (kk := 317) (i := 3) rfl Z (Or.inl ⟨rfl, rfl⟩) rfl acl_0 (by decide) ⟨by exact Nat.le_of_ble_eq_true rfl, by exact Nat.le_of_ble_eq_true rfl⟩ (by decide +kernel) ?_
  replace Z := c_Z Z hW 50
  refine c_putR Z (idx := 50) (ss := 17) (zmU (j := 39) rfl (by decide)) (by decide) (by decide) rfl (by decide +kernel) (Or.inr ⟨rfl, hin, rfl⟩) (by decide +kernel) ?_
  refine zblq Z rfl [(.aload 0, 1), (.iload 1, 1)] (S' := (76, [(0, .inr (.inr (some (2, 3)))), (1, .inl (3 : Int32))], [.inl (3 : Int32), .inr (.inr (some (2, 3)))], _)) (b := true) (by decide +kernel) rfl rfl ?_
  refine c_putF Z (idx := 53) (ss := 0) (zmU (j := 39) rfl (by decide)) (by decide) (by decide) rfl (by decide +kernel) ⟨rfl, hin, rfl⟩ (by decide +kernel) ?_
  refine zblq Z rfl [(.aload 0, 1)] (S' := (80, [(0, .inr (.inr (some (2, 3)))), (1, .inl (3 : Int32))], [.inr (.inr (some (2, 3)))], _)) (b := true) (by decide +kernel) rfl rfl ?_
  refine c_getR Z (idx := 30) (ss := 12) (r := (312, 3)) (zmU (j := 39) rfl (by decide)) (by decide) (by decide) rfl (by decide +kernel) rfl (by decide +kernel) ?_
  refine zblq Z rfl [(.iconst 16, 2)] (S' := (85, [(0, .inr (.inr (some (2, 3)))), (1, .inl (3 : Int32))], [.inl (16 : Int32), .inr (.inr (some (312, 3)))], _)) (b := true) (by decide +kernel) rfl rfl ?_
  refine zcallS Z (as := [.inr (.inr (some (312, 3))), .inl (16 : Int32)]) (st := []) (c_fill (zGt_ok hW _) (zmU (j := 40) rfl (by decide)) rfl (by decide)) cwi2_56 mJ7_fill_in rfl ⟨by exact Nat.le_of_ble_eq_true rfl, by exact Nat.le_of_ble_eq_true rfl⟩ rfl (by decide +kernel) ⟨by exact Nat.le_of_ble_eq_true rfl, by exact Nat.le_of_ble_eq_true rfl⟩ ?_
  exact zret_c Z hA hE (by decide +kernel)
def mk9_4 (M : zM) : zM := M
set_option maxRecDepth 100000 in
theorem ct9_4 {l : Launch} {D : va_G} {ad : zR → Nat} {ca : Nat → ClassId} {A : Nat → Prop} {base : Nat} (hW : zWh zUC base ad A) (M : zM) : zMetC l yX9_init cX9_init 1 1 0 0 12 [.inr (.inr (some (9, 4)))] (base + 53) (zGt zUC D ad ca A 53) M (zGt zUC D ad ca A 53) (mk9_4 M) := by
  refine zMetC_of (zGt_ok hW _) rfl tbK9_ok rfl rfl (by decide +kernel) (Nat.le_of_ble_eq_true rfl) (fun X _ Z hA hE => ?_)
  obtain ⟨p, l', e, R, s, m, args, below, meth, c, Q⟩ := X
  obtain ⟨hR, -, hin, hs, ho1, ho2⟩ := id hA
  subst hR
  refine zblq Z rfl [(.aload 0, 1)] (S' := (1, [(0, .inr (.inr (some (9, 4))))], [.inr (.inr (some (9, 4)))], _)) (b := true) (by decide +kernel) rfl rfl ?_
  refine z_obj Z ol9_1 ol_in ol_cd ⟨by exact Nat.le_of_ble_eq_true rfl, by exact Nat.le_of_ble_eq_true rfl⟩ (by decide +kernel) ?_
  exact zret_c Z hA hE (by decide +kernel)
def mk9_26 (M : zM) : zM := M
set_option maxRecDepth 100000 in
theorem ct9_26 {l : Launch} {D : va_G} {ad : zR → Nat} {ca : Nat → ClassId} {A : Nat → Prop} {base : Nat} (hW : zWh zUC base ad A) (M : zM) : zMetC l yX9_init cX9_init 1 1 0 0 12 [.inr (.inr (some (9, 26)))] (base + 57) (zGt zUC D ad ca A 57) M (zGt zUC D ad ca A 57) (mk9_26 M) := by
  refine zMetC_of (zGt_ok hW _) rfl tbK9_ok rfl rfl (by decide +kernel) (Nat.le_of_ble_eq_true rfl) (fun X _ Z hA hE => ?_)
  obtain ⟨p, l', e, R, s, m, args, below, meth, c, Q⟩ := X
  obtain ⟨hR, -, hin, hs, ho1, ho2⟩ := id hA
  subst hR
  refine zblq Z rfl [(.aload 0, 1)] (S' := (1, [(0, .inr (.inr (some (9, 26))))], [.inr (.inr (some (9, 26)))], _)) (b := true) (by decide +kernel) rfl rfl ?_
  refine z_obj Z ol9_1 ol_in ol_cd ⟨by exact Nat.le_of_ble_eq_true rfl, by exact Nat.le_of_ble_eq_true rfl⟩ (by decide +kernel) ?_
  exact zret_c Z hA hE (by decide +kernel)
def mk9_27 (M : zM) : zM := M
set_option maxRecDepth 100000 in
theorem ct9_27 {l : Launch} {D : va_G} {ad : zR → Nat} {ca : Nat → ClassId} {A : Nat → Prop} {base : Nat} (hW : zWh zUC base ad A) (M : zM) : zMetC l yX9_init cX9_init 1 1 0 0 12 [.inr (.inr (some (9, 27)))] (base + 58) (zGt zUC D ad ca A 58) M (zGt zUC D ad ca A 58) (mk9_27 M) := by
  refine zMetC_of (zGt_ok hW _) rfl tbK9_ok rfl rfl (by decide +kernel) (Nat.le_of_ble_eq_true rfl) (fun X _ Z hA hE => ?_)
  obtain ⟨p, l', e, R, s, m, args, below, meth, c, Q⟩ := X
  obtain ⟨hR, -, hin, hs, ho1, ho2⟩ := id hA
  subst hR
  refine zblq Z rfl [(.aload 0, 1)] (S' := (1, [(0, .inr (.inr (some (9, 27))))], [.inr (.inr (some (9, 27)))], _)) (b := true) (by decide +kernel) rfl rfl ?_
  refine z_obj Z ol9_1 ol_in ol_cd ⟨by exact Nat.le_of_ble_eq_true rfl, by exact Nat.le_of_ble_eq_true rfl⟩ (by decide +kernel) ?_
  exact zret_c Z hA hE (by decide +kernel)
def mk9_28 (M : zM) : zM := M
set_option maxRecDepth 100000 in
theorem ct9_28 {l : Launch} {D : va_G} {ad : zR → Nat} {ca : Nat → ClassId} {A : Nat → Prop} {base : Nat} (hW : zWh zUC base ad A) (M : zM) : zMetC l yX9_init cX9_init 1 1 0 0 12 [.inr (.inr (some (9, 28)))] (base + 59) (zGt zUC D ad ca A 59) M (zGt zUC D ad ca A 59) (mk9_28 M) := by
  refine zMetC_of (zGt_ok hW _) rfl tbK9_ok rfl rfl (by decide +kernel) (Nat.le_of_ble_eq_true rfl) (fun X _ Z hA hE => ?_)
  obtain ⟨p, l', e, R, s, m, args, below, meth, c, Q⟩ := X
  obtain ⟨hR, -, hin, hs, ho1, ho2⟩ := id hA
  subst hR
  refine zblq Z rfl [(.aload 0, 1)] (S' := (1, [(0, .inr (.inr (some (9, 28))))], [.inr (.inr (some (9, 28)))], _)) (b := true) (by decide +kernel) rfl rfl ?_
  refine z_obj Z ol9_1 ol_in ol_cd ⟨by exact Nat.le_of_ble_eq_true rfl, by exact Nat.le_of_ble_eq_true rfl⟩ (by decide +kernel) ?_
  exact zret_c Z hA hE (by decide +kernel)
def mk9_29 (M : zM) : zM := M
set_option maxRecDepth 100000 in
theorem ct9_29 {l : Launch} {D : va_G} {ad : zR → Nat} {ca : Nat → ClassId} {A : Nat → Prop} {base : Nat} (hW : zWh zUC base ad A) (M : zM) : zMetC l yX9_init cX9_init 1 1 0 0 12 [.inr (.inr (some (9, 29)))] (base + 60) (zGt zUC D ad ca A 60) M (zGt zUC D ad ca A 60) (mk9_29 M) := by
  refine zMetC_of (zGt_ok hW _) rfl tbK9_ok rfl rfl (by decide +kernel) (Nat.le_of_ble_eq_true rfl) (fun X _ Z hA hE => ?_)
  obtain ⟨p, l', e, R, s, m, args, below, meth, c, Q⟩ := X
  obtain ⟨hR, -, hin, hs, ho1, ho2⟩ := id hA
  subst hR
  refine zblq Z rfl [(.aload 0, 1)] (S' := (1, [(0, .inr (.inr (some (9, 29))))], [.inr (.inr (some (9, 29)))], _)) (b := true) (by decide +kernel) rfl rfl ?_
  refine z_obj Z ol9_1 ol_in ol_cd ⟨by exact Nat.le_of_ble_eq_true rfl, by exact Nat.le_of_ble_eq_true rfl⟩ (by decide +kernel) ?_
  exact zret_c Z hA hE (by decide +kernel)
def mk8_4 (M : zM) : zM := zwF (mk9_29 (zclr (zwF (mk9_28 (zclr (zwF (mk9_27 (zclr (zwF (mk9_26 (zclr (zwF (zclr (zwF (zclr M 900 4) 8 4 0 (900, 4)) 901 4) 8 4 1 (901, 4)) 9 26)) 901 4 0 (9, 26)) 9 27)) 901 4 1 (9, 27)) 9 28)) 901 4 2 (9, 28)) 9 29)) 901 4 3 (9, 29)
set_option maxRecDepth 100000 in
theorem ct8_4 {l : Launch} {D : va_G} {ad : zR → Nat} {ca : Nat → ClassId} {A : Nat → Prop} {base : Nat} (hW : zWh zUC base ad A) (M : zM) : zMetC l yX8_init cX8_init 2 2 6 28 32 [.inr (.inr (some (8, 4)))] (base + 54) (zGt zUC D ad ca A 54) M (zGt zUC D ad ca A 60) (mk8_4 M) := by
  refine zMetC_of (zGt_ok hW _) rfl tbK8_ok rfl rfl (by decide +kernel) (Nat.le_of_ble_eq_true rfl) (fun X _ Z hA hE => ?_)
  obtain ⟨p, l', e, R, s, m, args, below, meth, c, Q⟩ := X
  obtain ⟨hR, -, hin, hs, ho1, ho2⟩ := id hA
  subst hR
  refine zblq Z rfl [(.aload 0, 1)] (S' := (1, [(0, .inr (.inr (some (8, 4))))], [.inr (.inr (some (8, 4)))], _)) (b := true) (by decide +kernel) rfl rfl ?_
  refine z_obj Z ol8_1 ol_in ol_cd ⟨by exact Nat.le_of_ble_eq_true rfl, by exact Nat.le_of_ble_eq_true rfl⟩ (by decide +kernel) ?_
  refine zblq Z rfl [(.aload 0, 1), (.iconst 4, 1)] (S' := (6, [(0, .inr (.inr (some (8, 4))))], [.inl (4 : Int32), .inr (.inr (some (8, 4)))], _)) (b := true) (by decide +kernel) rfl rfl ?_
  refine c_newa (n := 0) hW hs rfl (kk := 900) (i := 4) rfl Z (Or.inl ⟨rfl, rfl⟩) rfl acl_0 (by decide) ⟨by exact Nat.le_of_ble_eq_true rfl, by exact Nat.le_of_ble_eq_true rfl⟩ (by decide +kernel) ?_
  replace Z := c_Z Z hW 55
  refine c_putR Z (idx := 9) (ss := 0) (zmU (j := 53) rfl (by decide)) (by decide) (by decide) rfl (by decide +kernel) (Or.inr ⟨rfl, hin, rfl⟩) (by decide +kernel) ?_
  refine zblq Z rfl [(.aload 0, 1), (.iconst 4, 1)] (S' := (13, [(0, .inr (.inr (some (8, 4))))], [.inl (4 : Int32), .inr (.inr (some (8, 4)))], _)) (b := true) (by decide +kernel) rfl rfl ?_
  refine c_newq (n := 1) hW hs rfl (kk := 901) (i := 4) (C0 := "EarField$Sum") rfl Z (Or.inr ⟨rfl, rfl⟩) rfl lk8_13 ho2 (by decide) ⟨by exact Nat.le_of_ble_eq_true rfl, by exact Nat.le_of_ble_eq_true rfl⟩ (by decide +kernel) ?_
  replace Z := c_Z Z hW 56
  refine c_putR Z (idx := 15) (ss := 1) (zmU (j := 53) rfl (by decide)) (by decide) (by decide) rfl (by decide +kernel) (Or.inr ⟨rfl, hin, rfl⟩) (by decide +kernel) ?_
  refine zblq Z rfl [(.iconst 0, 1), (.istore 1, 1), (.iload 1, 1), (.iconst 4, 1)] (S' := (23, [(0, .inr (.inr (some (8, 4)))), (1, .inl (0 : Int32))], [.inl (4 : Int32), .inl (0 : Int32)], _)) (b := true) (by decide +kernel) rfl rfl ?_
  refine zic_ge Z (off := 22) (tgt := 45) (by decide +kernel) (by decide) (fun h => absurd h (by decide)) (fun _ => ?_)
  refine zblq Z rfl [(.aload 0, 1)] (S' := (27, [(0, .inr (.inr (some (8, 4)))), (1, .inl (0 : Int32))], [.inr (.inr (some (8, 4)))], _)) (b := true) (by decide +kernel) rfl rfl ?_
  refine c_getR Z (idx := 15) (ss := 1) (r := (901, 4)) (zmU (j := 53) rfl (by decide)) (by decide) (by decide) rfl (by decide +kernel) rfl (by decide +kernel) ?_
  refine zblq Z rfl [(.iload 1, 1)] (S' := (31, [(0, .inr (.inr (some (8, 4)))), (1, .inl (0 : Int32))], [.inl (0 : Int32), .inr (.inr (some (901, 4)))], _)) (b := true) (by decide +kernel) rfl rfl ?_
  refine c_new (n := 2) hW hs rfl (kk := 9) (i := 26) rfl Z (by decide) lk8_13 ist_9 ini_9 ⟨by exact Nat.le_of_ble_eq_true rfl, by exact Nat.le_of_ble_eq_true rfl⟩ (by decide +kernel) ?_
  replace Z := c_Z Z hW 57
  refine zblq Z rfl [(.dup, 1)] (S' := (35, [(0, .inr (.inr (some (8, 4)))), (1, .inl (0 : Int32))], [.inr (.inr (some (9, 26))), .inr (.inr (some (9, 26))), .inl (0 : Int32), .inr (.inr (some (901, 4)))], _)) (b := true) (by decide +kernel) rfl rfl ?_
  refine c_call (n := 3) hW hs rfl (by decide +kernel) Z (as := []) (st := [.inr (.inr (some (9, 26))), .inl (0 : Int32), .inr (.inr (some (901, 4)))]) (mc := 0) (ms := 0) (ct9_26 hW _) ho1 ho2 cwi8_19 mi9_in rfl rfl ⟨by exact Nat.le_of_ble_eq_true rfl, by exact Nat.le_of_ble_eq_true rfl⟩ rfl (by decide +kernel) ⟨by exact Nat.le_of_ble_eq_true rfl, by exact Nat.le_of_ble_eq_true rfl⟩ ?_
  replace Z := c_Z Z hW 57
  refine c_aast Z (t := 3) (jn := 0) (zmU (j := 55) rfl (by decide)) (zmU (j := 56) rfl (by decide)) ⟨rfl, Or.inr ⟨rfl, rfl⟩⟩ (by decide) (by decide) (by decide +kernel) ?_
  refine zblq Z rfl [(.iinc 1 1, 3), (.ldc 21, 3), (.iload 1, 1), (.iconst 4, 1)] (S' := (23, [(0, .inr (.inr (some (8, 4)))), (1, .inl (1 : Int32))], [.inl (4 : Int32), .inl (1 : Int32)], _)) (b := true) (by decide +kernel) rfl rfl ?_
  refine zic_ge Z (off := 22) (tgt := 45) (by decide +kernel) (by decide) (fun h => absurd h (by decide)) (fun _ => ?_)
  refine zblq Z rfl [(.aload 0, 1)] (S' := (27, [(0, .inr (.inr (some (8, 4)))), (1, .inl (1 : Int32))], [.inr (.inr (some (8, 4)))], _)) (b := true) (by decide +kernel) rfl rfl ?_
  refine c_getR Z (idx := 15) (ss := 1) (r := (901, 4)) (zmU (j := 53) rfl (by decide)) (by decide) (by decide) rfl (by decide +kernel) rfl (by decide +kernel) ?_
  refine zblq Z rfl [(.iload 1, 1)] (S' := (31, [(0, .inr (.inr (some (8, 4)))), (1, .inl (1 : Int32))], [.inl (1 : Int32), .inr (.inr (some (901, 4)))], _)) (b := true) (by decide +kernel) rfl rfl ?_
  refine c_new (n := 3) hW hs rfl (kk := 9) (i := 27) rfl Z (by decide) lk8_13 ist_9 ini_9 ⟨by exact Nat.le_of_ble_eq_true rfl, by exact Nat.le_of_ble_eq_true rfl⟩ (by decide +kernel) ?_
  replace Z := c_Z Z hW 58
  refine zblq Z rfl [(.dup, 1)] (S' := (35, [(0, .inr (.inr (some (8, 4)))), (1, .inl (1 : Int32))], [.inr (.inr (some (9, 27))), .inr (.inr (some (9, 27))), .inl (1 : Int32), .inr (.inr (some (901, 4)))], _)) (b := true) (by decide +kernel) rfl rfl ?_
  refine c_call (n := 4) hW hs rfl (by decide +kernel) Z (as := []) (st := [.inr (.inr (some (9, 27))), .inl (1 : Int32), .inr (.inr (some (901, 4)))]) (mc := 0) (ms := 0) (ct9_27 hW _) ho1 ho2 cwi8_19 mi9_in rfl rfl ⟨by exact Nat.le_of_ble_eq_true rfl, by exact Nat.le_of_ble_eq_true rfl⟩ rfl (by decide +kernel) ⟨by exact Nat.le_of_ble_eq_true rfl, by exact Nat.le_of_ble_eq_true rfl⟩ ?_
  replace Z := c_Z Z hW 58
  refine c_aast Z (t := 3) (jn := 1) (zmU (j := 55) rfl (by decide)) (zmU (j := 57) rfl (by decide)) ⟨rfl, Or.inr ⟨rfl, rfl⟩⟩ (by decide) (by decide) (by decide +kernel) ?_
  refine zblq Z rfl [(.iinc 1 1, 3), (.ldc 21, 3), (.iload 1, 1), (.iconst 4, 1)] (S' := (23, [(0, .inr (.inr (some (8, 4)))), (1, .inl (2 : Int32))], [.inl (4 : Int32), .inl (2 : Int32)], _)) (b := true) (by decide +kernel) rfl rfl ?_
  refine zic_ge Z (off := 22) (tgt := 45) (by decide +kernel) (by decide) (fun h => absurd h (by decide)) (fun _ => ?_)
  refine zblq Z rfl [(.aload 0, 1)] (S' := (27, [(0, .inr (.inr (some (8, 4)))), (1, .inl (2 : Int32))], [.inr (.inr (some (8, 4)))], _)) (b := true) (by decide +kernel) rfl rfl ?_
  refine c_getR Z (idx := 15) (ss := 1) (r := (901, 4)) (zmU (j := 53) rfl (by decide)) (by decide) (by decide) rfl (by decide +kernel) rfl (by decide +kernel) ?_
  refine zblq Z rfl [(.iload 1, 1)] (S' := (31, [(0, .inr (.inr (some (8, 4)))), (1, .inl (2 : Int32))], [.inl (2 : Int32), .inr (.inr (some (901, 4)))], _)) (b := true) (by decide +kernel) rfl rfl ?_
  refine c_new (n := 4) hW hs rfl (kk := 9) (i := 28) rfl Z (by decide) lk8_13 ist_9 ini_9 ⟨by exact Nat.le_of_ble_eq_true rfl, by exact Nat.le_of_ble_eq_true rfl⟩ (by decide +kernel) ?_
  replace Z := c_Z Z hW 59
  refine zblq Z rfl [(.dup, 1)] (S' := (35, [(0, .inr (.inr (some (8, 4)))), (1, .inl (2 : Int32))], [.inr (.inr (some (9, 28))), .inr (.inr (some (9, 28))), .inl (2 : Int32), .inr (.inr (some (901, 4)))], _)) (b := true) (by decide +kernel) rfl rfl ?_
  refine c_call (n := 5) hW hs rfl (by decide +kernel) Z (as := []) (st := [.inr (.inr (some (9, 28))), .inl (2 : Int32), .inr (.inr (some (901, 4)))]) (mc := 0) (ms := 0) (ct9_28 hW _) ho1 ho2 cwi8_19 mi9_in rfl rfl ⟨by exact Nat.le_of_ble_eq_true rfl, by exact Nat.le_of_ble_eq_true rfl⟩ rfl (by decide +kernel) ⟨by exact Nat.le_of_ble_eq_true rfl, by exact Nat.le_of_ble_eq_true rfl⟩ ?_
  replace Z := c_Z Z hW 59
  refine c_aast Z (t := 3) (jn := 2) (zmU (j := 55) rfl (by decide)) (zmU (j := 58) rfl (by decide)) ⟨rfl, Or.inr ⟨rfl, rfl⟩⟩ (by decide) (by decide) (by decide +kernel) ?_
  refine zblq Z rfl [(.iinc 1 1, 3), (.ldc 21, 3), (.iload 1, 1), (.iconst 4, 1)] (S' := (23, [(0, .inr (.inr (some (8, 4)))), (1, .inl (3 : Int32))], [.inl (4 : Int32), .inl (3 : Int32)], _)) (b := true) (by decide +kernel) rfl rfl ?_
  refine zic_ge Z (off := 22) (tgt := 45) (by decide +kernel) (by decide) (fun h => absurd h (by decide)) (fun _ => ?_)
  refine zblq Z rfl [(.aload 0, 1)] (S' := (27, [(0, .inr (.inr (some (8, 4)))), (1, .inl (3 : Int32))], [.inr (.inr (some (8, 4)))], _)) (b := true) (by decide +kernel) rfl rfl ?_
  refine c_getR Z (idx := 15) (ss := 1) (r := (901, 4)) (zmU (j := 53) rfl (by decide)) (by decide) (by decide) rfl (by decide +kernel) rfl (by decide +kernel) ?_
  refine zblq Z rfl [(.iload 1, 1)] (S' := (31, [(0, .inr (.inr (some (8, 4)))), (1, .inl (3 : Int32))], [.inl (3 : Int32), .inr (.inr (some (901, 4)))], _)) (b := true) (by decide +kernel) rfl rfl ?_
  refine c_new (n := 5) hW hs rfl (kk := 9) (i := 29) rfl Z (by decide) lk8_13 ist_9 ini_9 ⟨by exact Nat.le_of_ble_eq_true rfl, by exact Nat.le_of_ble_eq_true rfl⟩ (by decide +kernel) ?_
  replace Z := c_Z Z hW 60
  refine zblq Z rfl [(.dup, 1)] (S' := (35, [(0, .inr (.inr (some (8, 4)))), (1, .inl (3 : Int32))], [.inr (.inr (some (9, 29))), .inr (.inr (some (9, 29))), .inl (3 : Int32), .inr (.inr (some (901, 4)))], _)) (b := true) (by decide +kernel) rfl rfl ?_
  refine c_call (n := 6) hW hs rfl (by decide +kernel) Z (as := []) (st := [.inr (.inr (some (9, 29))), .inl (3 : Int32), .inr (.inr (some (901, 4)))]) (mc := 0) (ms := 0) (ct9_29 hW _) ho1 ho2 cwi8_19 mi9_in rfl rfl ⟨by exact Nat.le_of_ble_eq_true rfl, by exact Nat.le_of_ble_eq_true rfl⟩ rfl (by decide +kernel) ⟨by exact Nat.le_of_ble_eq_true rfl, by exact Nat.le_of_ble_eq_true rfl⟩ ?_
  replace Z := c_Z Z hW 60
  refine c_aast Z (t := 3) (jn := 3) (zmU (j := 55) rfl (by decide)) (zmU (j := 59) rfl (by decide)) ⟨rfl, Or.inr ⟨rfl, rfl⟩⟩ (by decide) (by decide) (by decide +kernel) ?_
  refine zblq Z rfl [(.iinc 1 1, 3), (.ldc 21, 3), (.iload 1, 1), (.iconst 4, 1)] (S' := (23, [(0, .inr (.inr (some (8, 4)))), (1, .inl (4 : Int32))], [.inl (4 : Int32), .inl (4 : Int32)], _)) (b := true) (by decide +kernel) rfl rfl ?_
  refine zic_ge Z (off := 22) (tgt := 45) (by decide +kernel) (by decide) (fun _ => ?_) (fun h => absurd (by decide) h)
  exact zret_c Z hA hE (by decide +kernel)
def mk2_4 (M : zM) : zM := zfl (zwI (zwF (zclr (zwF (mk8_4 (zclr (zwF (mk9_4 (zclr (zwF (zclr (zwI (zwI (zwI (zwI (zwI (zwI M 2 4 3 (1 : Int32)) 2 4 4 (1 : Int32)) 2 4 7 (-1 : Int32)) 2 4 8 (-1 : Int32)) 2 4 10 (16 : Int32)) 2 4 11 (36 : Int32)) 312 4) 2 4 12 (312, 4)) 9 4)) 2 4 13 (9, 4)) 8 4)) 2 4 15 (8, 4)) 317 4) 2 4 17 (317, 4)) 2 4 0 (4 : Int32)) 312 4 (zak 312).2 (16 : Int32)
set_option maxRecDepth 100000 in
theorem ct2_4 {l : Launch} {D : va_G} {ad : zR → Nat} {ca : Nat → ClassId} {A : Nat → Prop} {base : Nat} (hW : zWh zUC base ad A) (M : zM) : zMetC l yX2_init cX2_init 2 3 10 68 53 [.inr (.inr (some (2, 4))), .inl (4 : Int32)] (base + 51) (zGt zUC D ad ca A 51) M (zGt zUC D ad ca A 61) (mk2_4 M) := by
  refine zMetC_of (zGt_ok hW _) rfl tbK2_ok rfl rfl (by decide +kernel) (Nat.le_of_ble_eq_true rfl) (fun X _ Z hA hE => ?_)
  obtain ⟨p, l', e, R, s, m, args, below, meth, c, Q⟩ := X
  obtain ⟨hR, -, hin, hs, ho1, ho2⟩ := id hA
  subst hR
  refine zblq Z rfl [(.aload 0, 1)] (S' := (1, [(0, .inr (.inr (some (2, 4)))), (1, .inl (4 : Int32))], [.inr (.inr (some (2, 4)))], _)) (b := true) (by decide +kernel) rfl rfl ?_
  refine z_obj Z ol2_3 ol_in ol_cd ⟨by exact Nat.le_of_ble_eq_true rfl, by exact Nat.le_of_ble_eq_true rfl⟩ (by decide +kernel) ?_
  refine zblq Z rfl [(.aload 0, 1), (.iconst 1, 1)] (S' := (6, [(0, .inr (.inr (some (2, 4)))), (1, .inl (4 : Int32))], [.inl (1 : Int32), .inr (.inr (some (2, 4)))], _)) (b := true) (by decide +kernel) rfl rfl ?_
  refine c_putI Z (idx := 9) (ss := 3) (zmU (j := 50) rfl (by decide)) (by decide) (by decide) rfl (by decide +kernel) rfl (by decide +kernel) ?_
  refine zblq Z rfl [(.aload 0, 1), (.iconst 1, 1)] (S' := (11, [(0, .inr (.inr (some (2, 4)))), (1, .inl (4 : Int32))], [.inl (1 : Int32), .inr (.inr (some (2, 4)))], _)) (b := true) (by decide +kernel) rfl rfl ?_
  refine c_putI Z (idx := 15) (ss := 4) (zmU (j := 50) rfl (by decide)) (by decide) (by decide) rfl (by decide +kernel) rfl (by decide +kernel) ?_
  refine zblq Z rfl [(.aload 0, 1), (.iconst (-1), 1)] (S' := (16, [(0, .inr (.inr (some (2, 4)))), (1, .inl (4 : Int32))], [.inl (-1 : Int32), .inr (.inr (some (2, 4)))], _)) (b := true) (by decide +kernel) rfl rfl ?_
  refine c_putI Z (idx := 18) (ss := 7) (zmU (j := 50) rfl (by decide)) (by decide) (by decide) rfl (by decide +kernel) rfl (by decide +kernel) ?_
  refine zblq Z rfl [(.aload 0, 1), (.iconst (-1), 1)] (S' := (21, [(0, .inr (.inr (some (2, 4)))), (1, .inl (4 : Int32))], [.inl (-1 : Int32), .inr (.inr (some (2, 4)))], _)) (b := true) (by decide +kernel) rfl rfl ?_
  refine c_putI Z (idx := 21) (ss := 8) (zmU (j := 50) rfl (by decide)) (by decide) (by decide) rfl (by decide +kernel) rfl (by decide +kernel) ?_
  refine zblq Z rfl [(.aload 0, 1), (.iconst 16, 2)] (S' := (27, [(0, .inr (.inr (some (2, 4)))), (1, .inl (4 : Int32))], [.inl (16 : Int32), .inr (.inr (some (2, 4)))], _)) (b := true) (by decide +kernel) rfl rfl ?_
  refine c_putI Z (idx := 24) (ss := 10) (zmU (j := 50) rfl (by decide)) (by decide) (by decide) rfl (by decide +kernel) rfl (by decide +kernel) ?_
  refine zblq Z rfl [(.aload 0, 1), (.iconst 36, 2)] (S' := (33, [(0, .inr (.inr (some (2, 4)))), (1, .inl (4 : Int32))], [.inl (36 : Int32), .inr (.inr (some (2, 4)))], _)) (b := true) (by decide +kernel) rfl rfl ?_
  refine c_putI Z (idx := 27) (ss := 11) (zmU (j := 50) rfl (by decide)) (by decide) (by decide) rfl (by decide +kernel) rfl (by decide +kernel) ?_
  refine zblq Z rfl [(.aload 0, 1), (.iconst 24, 2)] (S' := (39, [(0, .inr (.inr (some (2, 4)))), (1, .inl (4 : Int32))], [.inl (24 : Int32), .inr (.inr (some (2, 4)))], _)) (b := true) (by decide +kernel) rfl rfl ?_
  refine c_newa (n := 0) hW hs rfl (kk := 312) (i := 4) rfl Z (Or.inl ⟨rfl, rfl⟩) rfl acl_0 (by decide) ⟨by exact Nat.le_of_ble_eq_true rfl, by exact Nat.le_of_ble_eq_true rfl⟩ (by decide +kernel) ?_
  replace Z := c_Z Z hW 52
  refine c_putR Z (idx := 30) (ss := 12) (zmU (j := 50) rfl (by decide)) (by decide) (by decide) rfl (by decide +kernel) (Or.inr ⟨rfl, hin, rfl⟩) (by decide +kernel) ?_
  refine zblq Z rfl [(.aload 0, 1)] (S' := (45, [(0, .inr (.inr (some (2, 4)))), (1, .inl (4 : Int32))], [.inr (.inr (some (2, 4)))], _)) (b := true) (by decide +kernel) rfl rfl ?_
  refine c_new (n := 1) hW hs rfl (kk := 9) (i := 4) rfl Z (by decide) lk2_34 ist_9 ini_9 ⟨by exact Nat.le_of_ble_eq_true rfl, by exact Nat.le_of_ble_eq_true rfl⟩ (by decide +kernel) ?_
  replace Z := c_Z Z hW 53
  refine zblq Z rfl [(.dup, 1)] (S' := (49, [(0, .inr (.inr (some (2, 4)))), (1, .inl (4 : Int32))], [.inr (.inr (some (9, 4))), .inr (.inr (some (9, 4))), .inr (.inr (some (2, 4)))], _)) (b := true) (by decide +kernel) rfl rfl ?_
  refine c_call (n := 2) hW hs rfl (by decide +kernel) Z (as := []) (st := [.inr (.inr (some (9, 4))), .inr (.inr (some (2, 4)))]) (mc := 0) (ms := 0) (ct9_4 hW _) ho1 ho2 cwi2_36 mi9_in rfl rfl ⟨by exact Nat.le_of_ble_eq_true rfl, by exact Nat.le_of_ble_eq_true rfl⟩ rfl (by decide +kernel) ⟨by exact Nat.le_of_ble_eq_true rfl, by exact Nat.le_of_ble_eq_true rfl⟩ ?_
  replace Z := c_Z Z hW 53
  refine c_putR Z (idx := 37) (ss := 13) (zmU (j := 50) rfl (by decide)) (by decide) (by decide) rfl (by decide +kernel) (Or.inr ⟨rfl, hin, rfl⟩) (by decide +kernel) ?_
  refine zblq Z rfl [(.aload 0, 1)] (S' := (56, [(0, .inr (.inr (some (2, 4)))), (1, .inl (4 : Int32))], [.inr (.inr (some (2, 4)))], _)) (b := true) (by decide +kernel) rfl rfl ?_
  refine c_new (n := 2) hW hs rfl (kk := 8) (i := 4) rfl Z (by decide) lk2_41 ist_8 ini_8 ⟨by exact Nat.le_of_ble_eq_true rfl, by exact Nat.le_of_ble_eq_true rfl⟩ (by decide +kernel) ?_
  replace Z := c_Z Z hW 54
  refine zblq Z rfl [(.dup, 1)] (S' := (60, [(0, .inr (.inr (some (2, 4)))), (1, .inl (4 : Int32))], [.inr (.inr (some (8, 4))), .inr (.inr (some (8, 4))), .inr (.inr (some (2, 4)))], _)) (b := true) (by decide +kernel) rfl rfl ?_
  refine c_call (n := 3) hW hs rfl (by decide +kernel) Z (as := []) (st := [.inr (.inr (some (8, 4))), .inr (.inr (some (2, 4)))]) (mc := 6) (ms := 28) (ct8_4 hW _) ho1 ho2 cwi2_43 mi8_in rfl rfl ⟨by exact Nat.le_of_ble_eq_true rfl, by exact Nat.le_of_ble_eq_true rfl⟩ rfl (by decide +kernel) ⟨by exact Nat.le_of_ble_eq_true rfl, by exact Nat.le_of_ble_eq_true rfl⟩ ?_
  replace Z := c_Z Z hW 60
  refine c_putR Z (idx := 44) (ss := 15) (zmU (j := 50) rfl (by decide)) (by decide) (by decide) rfl (by decide +kernel) (Or.inr ⟨rfl, hin, rfl⟩) (by decide +kernel) ?_
  refine zblq Z rfl [(.aload 0, 1), (.iconst 8, 2)] (S' := (69, [(0, .inr (.inr (some (2, 4)))), (1, .inl (4 : Int32))], [.inl (8 : Int32), .inr (.inr (some (2, 4)))], _)) (b := true) (by decide +kernel) rfl rfl ?_
  refine c_newa (n := 9) hW hs rfl (kk := 317) (i := 4) rfl Z (Or.inl ⟨rfl, rfl⟩) rfl acl_0 (by decide) ⟨by exact Nat.le_of_ble_eq_true rfl, by exact Nat.le_of_ble_eq_true rfl⟩ (by decide +kernel) ?_
  replace Z := c_Z Z hW 61
  refine c_putR Z (idx := 50) (ss := 17) (zmU (j := 50) rfl (by decide)) (by decide) (by decide) rfl (by decide +kernel) (Or.inr ⟨rfl, hin, rfl⟩) (by decide +kernel) ?_
  refine zblq Z rfl [(.aload 0, 1), (.iload 1, 1)] (S' := (76, [(0, .inr (.inr (some (2, 4)))), (1, .inl (4 : Int32))], [.inl (4 : Int32), .inr (.inr (some (2, 4)))], _)) (b := true) (by decide +kernel) rfl rfl ?_
  refine c_putF Z (idx := 53) (ss := 0) (zmU (j := 50) rfl (by decide)) (by decide) (by decide) rfl (by decide +kernel) ⟨rfl, hin, rfl⟩ (by decide +kernel) ?_
  refine zblq Z rfl [(.aload 0, 1)] (S' := (80, [(0, .inr (.inr (some (2, 4)))), (1, .inl (4 : Int32))], [.inr (.inr (some (2, 4)))], _)) (b := true) (by decide +kernel) rfl rfl ?_
  refine c_getR Z (idx := 30) (ss := 12) (r := (312, 4)) (zmU (j := 50) rfl (by decide)) (by decide) (by decide) rfl (by decide +kernel) rfl (by decide +kernel) ?_
  refine zblq Z rfl [(.iconst 16, 2)] (S' := (85, [(0, .inr (.inr (some (2, 4)))), (1, .inl (4 : Int32))], [.inl (16 : Int32), .inr (.inr (some (312, 4)))], _)) (b := true) (by decide +kernel) rfl rfl ?_
  refine zcallS Z (as := [.inr (.inr (some (312, 4))), .inl (16 : Int32)]) (st := []) (c_fill (zGt_ok hW _) (zmU (j := 51) rfl (by decide)) rfl (by decide)) cwi2_56 mJ7_fill_in rfl ⟨by exact Nat.le_of_ble_eq_true rfl, by exact Nat.le_of_ble_eq_true rfl⟩ rfl (by decide +kernel) ⟨by exact Nat.le_of_ble_eq_true rfl, by exact Nat.le_of_ble_eq_true rfl⟩ ?_
  exact zret_c Z hA hE (by decide +kernel)
def mk9_5 (M : zM) : zM := M
set_option maxRecDepth 100000 in
theorem ct9_5 {l : Launch} {D : va_G} {ad : zR → Nat} {ca : Nat → ClassId} {A : Nat → Prop} {base : Nat} (hW : zWh zUC base ad A) (M : zM) : zMetC l yX9_init cX9_init 1 1 0 0 12 [.inr (.inr (some (9, 5)))] (base + 64) (zGt zUC D ad ca A 64) M (zGt zUC D ad ca A 64) (mk9_5 M) := by
  refine zMetC_of (zGt_ok hW _) rfl tbK9_ok rfl rfl (by decide +kernel) (Nat.le_of_ble_eq_true rfl) (fun X _ Z hA hE => ?_)
  obtain ⟨p, l', e, R, s, m, args, below, meth, c, Q⟩ := X
  obtain ⟨hR, -, hin, hs, ho1, ho2⟩ := id hA
  subst hR
  refine zblq Z rfl [(.aload 0, 1)] (S' := (1, [(0, .inr (.inr (some (9, 5))))], [.inr (.inr (some (9, 5)))], _)) (b := true) (by decide +kernel) rfl rfl ?_
  refine z_obj Z ol9_1 ol_in ol_cd ⟨by exact Nat.le_of_ble_eq_true rfl, by exact Nat.le_of_ble_eq_true rfl⟩ (by decide +kernel) ?_
  exact zret_c Z hA hE (by decide +kernel)
def mk9_30 (M : zM) : zM := M
set_option maxRecDepth 100000 in
theorem ct9_30 {l : Launch} {D : va_G} {ad : zR → Nat} {ca : Nat → ClassId} {A : Nat → Prop} {base : Nat} (hW : zWh zUC base ad A) (M : zM) : zMetC l yX9_init cX9_init 1 1 0 0 12 [.inr (.inr (some (9, 30)))] (base + 68) (zGt zUC D ad ca A 68) M (zGt zUC D ad ca A 68) (mk9_30 M) := by
  refine zMetC_of (zGt_ok hW _) rfl tbK9_ok rfl rfl (by decide +kernel) (Nat.le_of_ble_eq_true rfl) (fun X _ Z hA hE => ?_)
  obtain ⟨p, l', e, R, s, m, args, below, meth, c, Q⟩ := X
  obtain ⟨hR, -, hin, hs, ho1, ho2⟩ := id hA
  subst hR
  refine zblq Z rfl [(.aload 0, 1)] (S' := (1, [(0, .inr (.inr (some (9, 30))))], [.inr (.inr (some (9, 30)))], _)) (b := true) (by decide +kernel) rfl rfl ?_
  refine z_obj Z ol9_1 ol_in ol_cd ⟨by exact Nat.le_of_ble_eq_true rfl, by exact Nat.le_of_ble_eq_true rfl⟩ (by decide +kernel) ?_
  exact zret_c Z hA hE (by decide +kernel)
def mk9_31 (M : zM) : zM := M
set_option maxRecDepth 100000 in
theorem ct9_31 {l : Launch} {D : va_G} {ad : zR → Nat} {ca : Nat → ClassId} {A : Nat → Prop} {base : Nat} (hW : zWh zUC base ad A) (M : zM) : zMetC l yX9_init cX9_init 1 1 0 0 12 [.inr (.inr (some (9, 31)))] (base + 69) (zGt zUC D ad ca A 69) M (zGt zUC D ad ca A 69) (mk9_31 M) := by
  refine zMetC_of (zGt_ok hW _) rfl tbK9_ok rfl rfl (by decide +kernel) (Nat.le_of_ble_eq_true rfl) (fun X _ Z hA hE => ?_)
  obtain ⟨p, l', e, R, s, m, args, below, meth, c, Q⟩ := X
  obtain ⟨hR, -, hin, hs, ho1, ho2⟩ := id hA
  subst hR
  refine zblq Z rfl [(.aload 0, 1)] (S' := (1, [(0, .inr (.inr (some (9, 31))))], [.inr (.inr (some (9, 31)))], _)) (b := true) (by decide +kernel) rfl rfl ?_
  refine z_obj Z ol9_1 ol_in ol_cd ⟨by exact Nat.le_of_ble_eq_true rfl, by exact Nat.le_of_ble_eq_true rfl⟩ (by decide +kernel) ?_
  exact zret_c Z hA hE (by decide +kernel)
def mk9_32 (M : zM) : zM := M
set_option maxRecDepth 100000 in
theorem ct9_32 {l : Launch} {D : va_G} {ad : zR → Nat} {ca : Nat → ClassId} {A : Nat → Prop} {base : Nat} (hW : zWh zUC base ad A) (M : zM) : zMetC l yX9_init cX9_init 1 1 0 0 12 [.inr (.inr (some (9, 32)))] (base + 70) (zGt zUC D ad ca A 70) M (zGt zUC D ad ca A 70) (mk9_32 M) := by
  refine zMetC_of (zGt_ok hW _) rfl tbK9_ok rfl rfl (by decide +kernel) (Nat.le_of_ble_eq_true rfl) (fun X _ Z hA hE => ?_)
  obtain ⟨p, l', e, R, s, m, args, below, meth, c, Q⟩ := X
  obtain ⟨hR, -, hin, hs, ho1, ho2⟩ := id hA
  subst hR
  refine zblq Z rfl [(.aload 0, 1)] (S' := (1, [(0, .inr (.inr (some (9, 32))))], [.inr (.inr (some (9, 32)))], _)) (b := true) (by decide +kernel) rfl rfl ?_
  refine z_obj Z ol9_1 ol_in ol_cd ⟨by exact Nat.le_of_ble_eq_true rfl, by exact Nat.le_of_ble_eq_true rfl⟩ (by decide +kernel) ?_
  exact zret_c Z hA hE (by decide +kernel)
def mk9_33 (M : zM) : zM := M
set_option maxRecDepth 100000 in
theorem ct9_33 {l : Launch} {D : va_G} {ad : zR → Nat} {ca : Nat → ClassId} {A : Nat → Prop} {base : Nat} (hW : zWh zUC base ad A) (M : zM) : zMetC l yX9_init cX9_init 1 1 0 0 12 [.inr (.inr (some (9, 33)))] (base + 71) (zGt zUC D ad ca A 71) M (zGt zUC D ad ca A 71) (mk9_33 M) := by
  refine zMetC_of (zGt_ok hW _) rfl tbK9_ok rfl rfl (by decide +kernel) (Nat.le_of_ble_eq_true rfl) (fun X _ Z hA hE => ?_)
  obtain ⟨p, l', e, R, s, m, args, below, meth, c, Q⟩ := X
  obtain ⟨hR, -, hin, hs, ho1, ho2⟩ := id hA
  subst hR
  refine zblq Z rfl [(.aload 0, 1)] (S' := (1, [(0, .inr (.inr (some (9, 33))))], [.inr (.inr (some (9, 33)))], _)) (b := true) (by decide +kernel) rfl rfl ?_
  refine z_obj Z ol9_1 ol_in ol_cd ⟨by exact Nat.le_of_ble_eq_true rfl, by exact Nat.le_of_ble_eq_true rfl⟩ (by decide +kernel) ?_
  exact zret_c Z hA hE (by decide +kernel)
def mk8_5 (M : zM) : zM := zwF (mk9_33 (zclr (zwF (mk9_32 (zclr (zwF (mk9_31 (zclr (zwF (mk9_30 (zclr (zwF (zclr (zwF (zclr M 900 5) 8 5 0 (900, 5)) 901 5) 8 5 1 (901, 5)) 9 30)) 901 5 0 (9, 30)) 9 31)) 901 5 1 (9, 31)) 9 32)) 901 5 2 (9, 32)) 9 33)) 901 5 3 (9, 33)
set_option maxRecDepth 100000 in
theorem ct8_5 {l : Launch} {D : va_G} {ad : zR → Nat} {ca : Nat → ClassId} {A : Nat → Prop} {base : Nat} (hW : zWh zUC base ad A) (M : zM) : zMetC l yX8_init cX8_init 2 2 6 28 32 [.inr (.inr (some (8, 5)))] (base + 65) (zGt zUC D ad ca A 65) M (zGt zUC D ad ca A 71) (mk8_5 M) := by
  refine zMetC_of (zGt_ok hW _) rfl tbK8_ok rfl rfl (by decide +kernel) (Nat.le_of_ble_eq_true rfl) (fun X _ Z hA hE => ?_)
  obtain ⟨p, l', e, R, s, m, args, below, meth, c, Q⟩ := X
  obtain ⟨hR, -, hin, hs, ho1, ho2⟩ := id hA
  subst hR
  refine zblq Z rfl [(.aload 0, 1)] (S' := (1, [(0, .inr (.inr (some (8, 5))))], [.inr (.inr (some (8, 5)))], _)) (b := true) (by decide +kernel) rfl rfl ?_
  refine z_obj Z ol8_1 ol_in ol_cd ⟨by exact Nat.le_of_ble_eq_true rfl, by exact Nat.le_of_ble_eq_true rfl⟩ (by decide +kernel) ?_
  refine zblq Z rfl [(.aload 0, 1), (.iconst 4, 1)] (S' := (6, [(0, .inr (.inr (some (8, 5))))], [.inl (4 : Int32), .inr (.inr (some (8, 5)))], _)) (b := true) (by decide +kernel) rfl rfl ?_
  refine c_newa (n := 0) hW hs rfl (kk := 900) (i := 5) rfl Z (Or.inl ⟨rfl, rfl⟩) rfl acl_0 (by decide) ⟨by exact Nat.le_of_ble_eq_true rfl, by exact Nat.le_of_ble_eq_true rfl⟩ (by decide +kernel) ?_
  replace Z := c_Z Z hW 66
  refine c_putR Z (idx := 9) (ss := 0) (zmU (j := 64) rfl (by decide)) (by decide) (by decide) rfl (by decide +kernel) (Or.inr ⟨rfl, hin, rfl⟩) (by decide +kernel) ?_
  refine zblq Z rfl [(.aload 0, 1), (.iconst 4, 1)] (S' := (13, [(0, .inr (.inr (some (8, 5))))], [.inl (4 : Int32), .inr (.inr (some (8, 5)))], _)) (b := true) (by decide +kernel) rfl rfl ?_
  refine c_newq (n := 1) hW hs rfl (kk := 901) (i := 5) (C0 := "EarField$Sum") rfl Z (Or.inr ⟨rfl, rfl⟩) rfl lk8_13 ho2 (by decide) ⟨by exact Nat.le_of_ble_eq_true rfl, by exact Nat.le_of_ble_eq_true rfl⟩ (by decide +kernel) ?_
  replace Z := c_Z Z hW 67
  refine c_putR Z (idx := 15) (ss := 1) (zmU (j := 64) rfl (by decide)) (by decide) (by decide) rfl (by decide +kernel) (Or.inr ⟨rfl, hin, rfl⟩) (by decide +kernel) ?_
  refine zblq Z rfl [(.iconst 0, 1), (.istore 1, 1), (.iload 1, 1), (.iconst 4, 1)] (S' := (23, [(0, .inr (.inr (some (8, 5)))), (1, .inl (0 : Int32))], [.inl (4 : Int32), .inl (0 : Int32)], _)) (b := true) (by decide +kernel) rfl rfl ?_
  refine zic_ge Z (off := 22) (tgt := 45) (by decide +kernel) (by decide) (fun h => absurd h (by decide)) (fun _ => ?_)
  refine zblq Z rfl [(.aload 0, 1)] (S' := (27, [(0, .inr (.inr (some (8, 5)))), (1, .inl (0 : Int32))], [.inr (.inr (some (8, 5)))], _)) (b := true) (by decide +kernel) rfl rfl ?_
  refine c_getR Z (idx := 15) (ss := 1) (r := (901, 5)) (zmU (j := 64) rfl (by decide)) (by decide) (by decide) rfl (by decide +kernel) rfl (by decide +kernel) ?_
  refine zblq Z rfl [(.iload 1, 1)] (S' := (31, [(0, .inr (.inr (some (8, 5)))), (1, .inl (0 : Int32))], [.inl (0 : Int32), .inr (.inr (some (901, 5)))], _)) (b := true) (by decide +kernel) rfl rfl ?_
  refine c_new (n := 2) hW hs rfl (kk := 9) (i := 30) rfl Z (by decide) lk8_13 ist_9 ini_9 ⟨by exact Nat.le_of_ble_eq_true rfl, by exact Nat.le_of_ble_eq_true rfl⟩ (by decide +kernel) ?_
  replace Z := c_Z Z hW 68
  refine zblq Z rfl [(.dup, 1)] (S' := (35, [(0, .inr (.inr (some (8, 5)))), (1, .inl (0 : Int32))], [.inr (.inr (some (9, 30))), .inr (.inr (some (9, 30))), .inl (0 : Int32), .inr (.inr (some (901, 5)))], _)) (b := true) (by decide +kernel) rfl rfl ?_
  refine c_call (n := 3) hW hs rfl (by decide +kernel) Z (as := []) (st := [.inr (.inr (some (9, 30))), .inl (0 : Int32), .inr (.inr (some (901, 5)))]) (mc := 0) (ms := 0) (ct9_30 hW _) ho1 ho2 cwi8_19 mi9_in rfl rfl ⟨by exact Nat.le_of_ble_eq_true rfl, by exact Nat.le_of_ble_eq_true rfl⟩ rfl (by decide +kernel) ⟨by exact Nat.le_of_ble_eq_true rfl, by exact Nat.le_of_ble_eq_true rfl⟩ ?_
  replace Z := c_Z Z hW 68
  refine c_aast Z (t := 3) (jn := 0) (zmU (j := 66) rfl (by decide)) (zmU (j := 67) rfl (by decide)) ⟨rfl, Or.inr ⟨rfl, rfl⟩⟩ (by decide) (by decide) (by decide +kernel) ?_
  refine zblq Z rfl [(.iinc 1 1, 3), (.ldc 21, 3), (.iload 1, 1), (.iconst 4, 1)] (S' := (23, [(0, .inr (.inr (some (8, 5)))), (1, .inl (1 : Int32))], [.inl (4 : Int32), .inl (1 : Int32)], _)) (b := true) (by decide +kernel) rfl rfl ?_
  refine zic_ge Z (off := 22) (tgt := 45) (by decide +kernel) (by decide) (fun h => absurd h (by decide)) (fun _ => ?_)
  refine zblq Z rfl [(.aload 0, 1)] (S' := (27, [(0, .inr (.inr (some (8, 5)))), (1, .inl (1 : Int32))], [.inr (.inr (some (8, 5)))], _)) (b := true) (by decide +kernel) rfl rfl ?_
  refine c_getR Z (idx := 15) (ss := 1) (r := (901, 5)) (zmU (j := 64) rfl (by decide)) (by decide) (by decide) rfl (by decide +kernel) rfl (by decide +kernel) ?_
  refine zblq Z rfl [(.iload 1, 1)] (S' := (31, [(0, .inr (.inr (some (8, 5)))), (1, .inl (1 : Int32))], [.inl (1 : Int32), .inr (.inr (some (901, 5)))], _)) (b := true) (by decide +kernel) rfl rfl ?_
  refine c_new (n := 3) hW hs rfl (kk := 9) (i := 31) rfl Z (by decide) lk8_13 ist_9 ini_9 ⟨by exact Nat.le_of_ble_eq_true rfl, by exact Nat.le_of_ble_eq_true rfl⟩ (by decide +kernel) ?_
  replace Z := c_Z Z hW 69
  refine zblq Z rfl [(.dup, 1)] (S' := (35, [(0, .inr (.inr (some (8, 5)))), (1, .inl (1 : Int32))], [.inr (.inr (some (9, 31))), .inr (.inr (some (9, 31))), .inl (1 : Int32), .inr (.inr (some (901, 5)))], _)) (b := true) (by decide +kernel) rfl rfl ?_
  refine c_call (n := 4) hW hs rfl (by decide +kernel) Z (as := []) (st := [.inr (.inr (some (9, 31))), .inl (1 : Int32), .inr (.inr (some (901, 5)))]) (mc := 0) (ms := 0) (ct9_31 hW _) ho1 ho2 cwi8_19 mi9_in rfl rfl ⟨by exact Nat.le_of_ble_eq_true rfl, by exact Nat.le_of_ble_eq_true rfl⟩ rfl (by decide +kernel) ⟨by exact Nat.le_of_ble_eq_true rfl, by exact Nat.le_of_ble_eq_true rfl⟩ ?_
  replace Z := c_Z Z hW 69
  refine c_aast Z (t := 3) (jn := 1) (zmU (j := 66) rfl (by decide)) (zmU (j := 68) rfl (by decide)) ⟨rfl, Or.inr ⟨rfl, rfl⟩⟩ (by decide) (by decide) (by decide +kernel) ?_
  refine zblq Z rfl [(.iinc 1 1, 3), (.ldc 21, 3), (.iload 1, 1), (.iconst 4, 1)] (S' := (23, [(0, .inr (.inr (some (8, 5)))), (1, .inl (2 : Int32))], [.inl (4 : Int32), .inl (2 : Int32)], _)) (b := true) (by decide +kernel) rfl rfl ?_
  refine zic_ge Z (off := 22) (tgt := 45) (by decide +kernel) (by decide) (fun h => absurd h (by decide)) (fun _ => ?_)
  refine zblq Z rfl [(.aload 0, 1)] (S' := (27, [(0, .inr (.inr (some (8, 5)))), (1, .inl (2 : Int32))], [.inr (.inr (some (8, 5)))], _)) (b := true) (by decide +kernel) rfl rfl ?_
  refine c_getR Z (idx := 15) (ss := 1) (r := (901, 5)) (zmU (j := 64) rfl (by decide)) (by decide) (by decide) rfl (by decide +kernel) rfl (by decide +kernel) ?_
  refine zblq Z rfl [(.iload 1, 1)] (S' := (31, [(0, .inr (.inr (some (8, 5)))), (1, .inl (2 : Int32))], [.inl (2 : Int32), .inr (.inr (some (901, 5)))], _)) (b := true) (by decide +kernel) rfl rfl ?_
  refine c_new (n := 4) hW hs rfl (kk := 9) (i := 32) rfl Z (by decide) lk8_13 ist_9 ini_9 ⟨by exact Nat.le_of_ble_eq_true rfl, by exact Nat.le_of_ble_eq_true rfl⟩ (by decide +kernel) ?_
  replace Z := c_Z Z hW 70
  refine zblq Z rfl [(.dup, 1)] (S' := (35, [(0, .inr (.inr (some (8, 5)))), (1, .inl (2 : Int32))], [.inr (.inr (some (9, 32))), .inr (.inr (some (9, 32))), .inl (2 : Int32), .inr (.inr (some (901, 5)))], _)) (b := true) (by decide +kernel) rfl rfl ?_
  refine c_call (n := 5) hW hs rfl (by decide +kernel) Z (as := []) (st := [.inr (.inr (some (9, 32))), .inl (2 : Int32), .inr (.inr (some (901, 5)))]) (mc := 0) (ms := 0) (ct9_32 hW _) ho1 ho2 cwi8_19 mi9_in rfl rfl ⟨by exact Nat.le_of_ble_eq_true rfl, by exact Nat.le_of_ble_eq_true rfl⟩ rfl (by decide +kernel) ⟨by exact Nat.le_of_ble_eq_true rfl, by exact Nat.le_of_ble_eq_true rfl⟩ ?_
  replace Z := c_Z Z hW 70
  refine c_aast Z (t := 3) (jn := 2) (zmU (j := 66) rfl (by decide)) (zmU (j := 69) rfl (by decide)) ⟨rfl, Or.inr ⟨rfl, rfl⟩⟩ (by decide) (by decide) (by decide +kernel) ?_
  refine zblq Z rfl [(.iinc 1 1, 3), (.ldc 21, 3), (.iload 1, 1), (.iconst 4, 1)] (S' := (23, [(0, .inr (.inr (some (8, 5)))), (1, .inl (3 : Int32))], [.inl (4 : Int32), .inl (3 : Int32)], _)) (b := true) (by decide +kernel) rfl rfl ?_
  refine zic_ge Z (off := 22) (tgt := 45) (by decide +kernel) (by decide) (fun h => absurd h (by decide)) (fun _ => ?_)
  refine zblq Z rfl [(.aload 0, 1)] (S' := (27, [(0, .inr (.inr (some (8, 5)))), (1, .inl (3 : Int32))], [.inr (.inr (some (8, 5)))], _)) (b := true) (by decide +kernel) rfl rfl ?_
  refine c_getR Z (idx := 15) (ss := 1) (r := (901, 5)) (zmU (j := 64) rfl (by decide)) (by decide) (by decide) rfl (by decide +kernel) rfl (by decide +kernel) ?_
  refine zblq Z rfl [(.iload 1, 1)] (S' := (31, [(0, .inr (.inr (some (8, 5)))), (1, .inl (3 : Int32))], [.inl (3 : Int32), .inr (.inr (some (901, 5)))], _)) (b := true) (by decide +kernel) rfl rfl ?_
  refine c_new (n := 5) hW hs rfl (kk := 9) (i := 33) rfl Z (by decide) lk8_13 ist_9 ini_9 ⟨by exact Nat.le_of_ble_eq_true rfl, by exact Nat.le_of_ble_eq_true rfl⟩ (by decide +kernel) ?_
  replace Z := c_Z Z hW 71
  refine zblq Z rfl [(.dup, 1)] (S' := (35, [(0, .inr (.inr (some (8, 5)))), (1, .inl (3 : Int32))], [.inr (.inr (some (9, 33))), .inr (.inr (some (9, 33))), .inl (3 : Int32), .inr (.inr (some (901, 5)))], _)) (b := true) (by decide +kernel) rfl rfl ?_
  refine c_call (n := 6) hW hs rfl (by decide +kernel) Z (as := []) (st := [.inr (.inr (some (9, 33))), .inl (3 : Int32), .inr (.inr (some (901, 5)))]) (mc := 0) (ms := 0) (ct9_33 hW _) ho1 ho2 cwi8_19 mi9_in rfl rfl ⟨by exact Nat.le_of_ble_eq_true rfl, by exact Nat.le_of_ble_eq_true rfl⟩ rfl (by decide +kernel) ⟨by exact Nat.le_of_ble_eq_true rfl, by exact Nat.le_of_ble_eq_true rfl⟩ ?_
  replace Z := c_Z Z hW 71
  refine c_aast Z (t := 3) (jn := 3) (zmU (j := 66) rfl (by decide)) (zmU (j := 70) rfl (by decide)) ⟨rfl, Or.inr ⟨rfl, rfl⟩⟩ (by decide) (by decide) (by decide +kernel) ?_
  refine zblq Z rfl [(.iinc 1 1, 3), (.ldc 21, 3), (.iload 1, 1), (.iconst 4, 1)] (S' := (23, [(0, .inr (.inr (some (8, 5)))), (1, .inl (4 : Int32))], [.inl (4 : Int32), .inl (4 : Int32)], _)) (b := true) (by decide +kernel) rfl rfl ?_
  refine zic_ge Z (off := 22) (tgt := 45) (by decide +kernel) (by decide) (fun _ => ?_) (fun h => absurd (by decide) h)
  exact zret_c Z hA hE (by decide +kernel)
def mk2_5 (M : zM) : zM := zfl (zwI (zwF (zclr (zwF (mk8_5 (zclr (zwF (mk9_5 (zclr (zwF (zclr (zwI (zwI (zwI (zwI (zwI (zwI M 2 5 3 (1 : Int32)) 2 5 4 (1 : Int32)) 2 5 7 (-1 : Int32)) 2 5 8 (-1 : Int32)) 2 5 10 (16 : Int32)) 2 5 11 (36 : Int32)) 312 5) 2 5 12 (312, 5)) 9 5)) 2 5 13 (9, 5)) 8 5)) 2 5 15 (8, 5)) 317 5) 2 5 17 (317, 5)) 2 5 0 (5 : Int32)) 312 5 (zak 312).2 (16 : Int32)
set_option maxRecDepth 100000 in
theorem ct2_5 {l : Launch} {D : va_G} {ad : zR → Nat} {ca : Nat → ClassId} {A : Nat → Prop} {base : Nat} (hW : zWh zUC base ad A) (M : zM) : zMetC l yX2_init cX2_init 2 3 10 68 53 [.inr (.inr (some (2, 5))), .inl (5 : Int32)] (base + 62) (zGt zUC D ad ca A 62) M (zGt zUC D ad ca A 72) (mk2_5 M) := by
  refine zMetC_of (zGt_ok hW _) rfl tbK2_ok rfl rfl (by decide +kernel) (Nat.le_of_ble_eq_true rfl) (fun X _ Z hA hE => ?_)
  obtain ⟨p, l', e, R, s, m, args, below, meth, c, Q⟩ := X
  obtain ⟨hR, -, hin, hs, ho1, ho2⟩ := id hA
  subst hR
  refine zblq Z rfl [(.aload 0, 1)] (S' := (1, [(0, .inr (.inr (some (2, 5)))), (1, .inl (5 : Int32))], [.inr (.inr (some (2, 5)))], _)) (b := true) (by decide +kernel) rfl rfl ?_
  refine z_obj Z ol2_3 ol_in ol_cd ⟨by exact Nat.le_of_ble_eq_true rfl, by exact Nat.le_of_ble_eq_true rfl⟩ (by decide +kernel) ?_
  refine zblq Z rfl [(.aload 0, 1), (.iconst 1, 1)] (S' := (6, [(0, .inr (.inr (some (2, 5)))), (1, .inl (5 : Int32))], [.inl (1 : Int32), .inr (.inr (some (2, 5)))], _)) (b := true) (by decide +kernel) rfl rfl ?_
  refine c_putI Z (idx := 9) (ss := 3) (zmU (j := 61) rfl (by decide)) (by decide) (by decide) rfl (by decide +kernel) rfl (by decide +kernel) ?_
  refine zblq Z rfl [(.aload 0, 1), (.iconst 1, 1)] (S' := (11, [(0, .inr (.inr (some (2, 5)))), (1, .inl (5 : Int32))], [.inl (1 : Int32), .inr (.inr (some (2, 5)))], _)) (b := true) (by decide +kernel) rfl rfl ?_
  refine c_putI Z (idx := 15) (ss := 4) (zmU (j := 61) rfl (by decide)) (by decide) (by decide) rfl (by decide +kernel) rfl (by decide +kernel) ?_
  refine zblq Z rfl [(.aload 0, 1), (.iconst (-1), 1)] (S' := (16, [(0, .inr (.inr (some (2, 5)))), (1, .inl (5 : Int32))], [.inl (-1 : Int32), .inr (.inr (some (2, 5)))], _)) (b := true) (by decide +kernel) rfl rfl ?_
  refine c_putI Z (idx := 18) (ss := 7) (zmU (j := 61) rfl (by decide)) (by decide) (by decide) rfl (by decide +kernel) rfl (by decide +kernel) ?_
  refine zblq Z rfl [(.aload 0, 1), (.iconst (-1), 1)] (S' := (21, [(0, .inr (.inr (some (2, 5)))), (1, .inl (5 : Int32))], [.inl (-1 : Int32), .inr (.inr (some (2, 5)))], _)) (b := true) (by decide +kernel) rfl rfl ?_
  refine c_putI Z (idx := 21) (ss := 8) (zmU (j := 61) rfl (by decide)) (by decide) (by decide) rfl (by decide +kernel) rfl (by decide +kernel) ?_
  refine zblq Z rfl [(.aload 0, 1), (.iconst 16, 2)] (S' := (27, [(0, .inr (.inr (some (2, 5)))), (1, .inl (5 : Int32))], [.inl (16 : Int32), .inr (.inr (some (2, 5)))], _)) (b := true) (by decide +kernel) rfl rfl ?_
  refine c_putI Z (idx := 24) (ss := 10) (zmU (j := 61) rfl (by decide)) (by decide) (by decide) rfl (by decide +kernel) rfl (by decide +kernel) ?_
  refine zblq Z rfl [(.aload 0, 1), (.iconst 36, 2)] (S' := (33, [(0, .inr (.inr (some (2, 5)))), (1, .inl (5 : Int32))], [.inl (36 : Int32), .inr (.inr (some (2, 5)))], _)) (b := true) (by decide +kernel) rfl rfl ?_
  refine c_putI Z (idx := 27) (ss := 11) (zmU (j := 61) rfl (by decide)) (by decide) (by decide) rfl (by decide +kernel) rfl (by decide +kernel) ?_
  refine zblq Z rfl [(.aload 0, 1), (.iconst 24, 2)] (S' := (39, [(0, .inr (.inr (some (2, 5)))), (1, .inl (5 : Int32))], [.inl (24 : Int32), .inr (.inr (some (2, 5)))], _)) (b := true) (by decide +kernel) rfl rfl ?_
  refine c_newa (n := 0) hW hs rfl (kk := 312) (i := 5) rfl Z (Or.inl ⟨rfl, rfl⟩) rfl acl_0 (by decide) ⟨by exact Nat.le_of_ble_eq_true rfl, by exact Nat.le_of_ble_eq_true rfl⟩ (by decide +kernel) ?_
  replace Z := c_Z Z hW 63
  refine c_putR Z (idx := 30) (ss := 12) (zmU (j := 61) rfl (by decide)) (by decide) (by decide) rfl (by decide +kernel) (Or.inr ⟨rfl, hin, rfl⟩) (by decide +kernel) ?_
  refine zblq Z rfl [(.aload 0, 1)] (S' := (45, [(0, .inr (.inr (some (2, 5)))), (1, .inl (5 : Int32))], [.inr (.inr (some (2, 5)))], _)) (b := true) (by decide +kernel) rfl rfl ?_
  refine c_new (n := 1) hW hs rfl (kk := 9) (i := 5) rfl Z (by decide) lk2_34 ist_9 ini_9 ⟨by exact Nat.le_of_ble_eq_true rfl, by exact Nat.le_of_ble_eq_true rfl⟩ (by decide +kernel) ?_
  replace Z := c_Z Z hW 64
  refine zblq Z rfl [(.dup, 1)] (S' := (49, [(0, .inr (.inr (some (2, 5)))), (1, .inl (5 : Int32))], [.inr (.inr (some (9, 5))), .inr (.inr (some (9, 5))), .inr (.inr (some (2, 5)))], _)) (b := true) (by decide +kernel) rfl rfl ?_
  refine c_call (n := 2) hW hs rfl (by decide +kernel) Z (as := []) (st := [.inr (.inr (some (9, 5))), .inr (.inr (some (2, 5)))]) (mc := 0) (ms := 0) (ct9_5 hW _) ho1 ho2 cwi2_36 mi9_in rfl rfl ⟨by exact Nat.le_of_ble_eq_true rfl, by exact Nat.le_of_ble_eq_true rfl⟩ rfl (by decide +kernel) ⟨by exact Nat.le_of_ble_eq_true rfl, by exact Nat.le_of_ble_eq_true rfl⟩ ?_
  replace Z := c_Z Z hW 64
  refine c_putR Z (idx := 37) (ss := 13) (zmU (j := 61) rfl (by decide)) (by decide) (by decide) rfl (by decide +kernel) (Or.inr ⟨rfl, hin, rfl⟩) (by decide +kernel) ?_
  refine zblq Z rfl [(.aload 0, 1)] (S' := (56, [(0, .inr (.inr (some (2, 5)))), (1, .inl (5 : Int32))], [.inr (.inr (some (2, 5)))], _)) (b := true) (by decide +kernel) rfl rfl ?_
  refine c_new (n := 2) hW hs rfl (kk := 8) (i := 5) rfl Z (by decide) lk2_41 ist_8 ini_8 ⟨by exact Nat.le_of_ble_eq_true rfl, by exact Nat.le_of_ble_eq_true rfl⟩ (by decide +kernel) ?_
  replace Z := c_Z Z hW 65
  refine zblq Z rfl [(.dup, 1)] (S' := (60, [(0, .inr (.inr (some (2, 5)))), (1, .inl (5 : Int32))], [.inr (.inr (some (8, 5))), .inr (.inr (some (8, 5))), .inr (.inr (some (2, 5)))], _)) (b := true) (by decide +kernel) rfl rfl ?_
  refine c_call (n := 3) hW hs rfl (by decide +kernel) Z (as := []) (st := [.inr (.inr (some (8, 5))), .inr (.inr (some (2, 5)))]) (mc := 6) (ms := 28) (ct8_5 hW _) ho1 ho2 cwi2_43 mi8_in rfl rfl ⟨by exact Nat.le_of_ble_eq_true rfl, by exact Nat.le_of_ble_eq_true rfl⟩ rfl (by decide +kernel) ⟨by exact Nat.le_of_ble_eq_true rfl, by exact Nat.le_of_ble_eq_true rfl⟩ ?_
  replace Z := c_Z Z hW 71
  refine c_putR Z (idx := 44) (ss := 15) (zmU (j := 61) rfl (by decide)) (by decide) (by decide) rfl (by decide +kernel) (Or.inr ⟨rfl, hin, rfl⟩) (by decide +kernel) ?_
  refine zblq Z rfl [(.aload 0, 1), (.iconst 8, 2)] (S' := (69, [(0, .inr (.inr (some (2, 5)))), (1, .inl (5 : Int32))], [.inl (8 : Int32), .inr (.inr (some (2, 5)))], _)) (b := true) (by decide +kernel) rfl rfl ?_
  refine c_newa (n := 9) hW hs rfl (kk := 317) (i := 5) rfl Z (Or.inl ⟨rfl, rfl⟩) rfl acl_0 (by decide) ⟨by exact Nat.le_of_ble_eq_true rfl, by exact Nat.le_of_ble_eq_true rfl⟩ (by decide +kernel) ?_
  replace Z := c_Z Z hW 72
  refine c_putR Z (idx := 50) (ss := 17) (zmU (j := 61) rfl (by decide)) (by decide) (by decide) rfl (by decide +kernel) (Or.inr ⟨rfl, hin, rfl⟩) (by decide +kernel) ?_
  refine zblq Z rfl [(.aload 0, 1), (.iload 1, 1)] (S' := (76, [(0, .inr (.inr (some (2, 5)))), (1, .inl (5 : Int32))], [.inl (5 : Int32), .inr (.inr (some (2, 5)))], _)) (b := true) (by decide +kernel) rfl rfl ?_
  refine c_putF Z (idx := 53) (ss := 0) (zmU (j := 61) rfl (by decide)) (by decide) (by decide) rfl (by decide +kernel) ⟨rfl, hin, rfl⟩ (by decide +kernel) ?_
  refine zblq Z rfl [(.aload 0, 1)] (S' := (80, [(0, .inr (.inr (some (2, 5)))), (1, .inl (5 : Int32))], [.inr (.inr (some (2, 5)))], _)) (b := true) (by decide +kernel) rfl rfl ?_
  refine c_getR Z (idx := 30) (ss := 12) (r := (312, 5)) (zmU (j := 61) rfl (by decide)) (by decide) (by decide) rfl (by decide +kernel) rfl (by decide +kernel) ?_
  refine zblq Z rfl [(.iconst 16, 2)] (S' := (85, [(0, .inr (.inr (some (2, 5)))), (1, .inl (5 : Int32))], [.inl (16 : Int32), .inr (.inr (some (312, 5)))], _)) (b := true) (by decide +kernel) rfl rfl ?_
  refine zcallS Z (as := [.inr (.inr (some (312, 5))), .inl (16 : Int32)]) (st := []) (c_fill (zGt_ok hW _) (zmU (j := 62) rfl (by decide)) rfl (by decide)) cwi2_56 mJ7_fill_in rfl ⟨by exact Nat.le_of_ble_eq_true rfl, by exact Nat.le_of_ble_eq_true rfl⟩ rfl (by decide +kernel) ⟨by exact Nat.le_of_ble_eq_true rfl, by exact Nat.le_of_ble_eq_true rfl⟩ ?_
  exact zret_c Z hA hE (by decide +kernel)
def mk9_6 (M : zM) : zM := M
set_option maxRecDepth 100000 in
theorem ct9_6 {l : Launch} {D : va_G} {ad : zR → Nat} {ca : Nat → ClassId} {A : Nat → Prop} {base : Nat} (hW : zWh zUC base ad A) (M : zM) : zMetC l yX9_init cX9_init 1 1 0 0 12 [.inr (.inr (some (9, 6)))] (base + 75) (zGt zUC D ad ca A 75) M (zGt zUC D ad ca A 75) (mk9_6 M) := by
  refine zMetC_of (zGt_ok hW _) rfl tbK9_ok rfl rfl (by decide +kernel) (Nat.le_of_ble_eq_true rfl) (fun X _ Z hA hE => ?_)
  obtain ⟨p, l', e, R, s, m, args, below, meth, c, Q⟩ := X
  obtain ⟨hR, -, hin, hs, ho1, ho2⟩ := id hA
  subst hR
  refine zblq Z rfl [(.aload 0, 1)] (S' := (1, [(0, .inr (.inr (some (9, 6))))], [.inr (.inr (some (9, 6)))], _)) (b := true) (by decide +kernel) rfl rfl ?_
  refine z_obj Z ol9_1 ol_in ol_cd ⟨by exact Nat.le_of_ble_eq_true rfl, by exact Nat.le_of_ble_eq_true rfl⟩ (by decide +kernel) ?_
  exact zret_c Z hA hE (by decide +kernel)
def mk9_34 (M : zM) : zM := M
set_option maxRecDepth 100000 in
theorem ct9_34 {l : Launch} {D : va_G} {ad : zR → Nat} {ca : Nat → ClassId} {A : Nat → Prop} {base : Nat} (hW : zWh zUC base ad A) (M : zM) : zMetC l yX9_init cX9_init 1 1 0 0 12 [.inr (.inr (some (9, 34)))] (base + 79) (zGt zUC D ad ca A 79) M (zGt zUC D ad ca A 79) (mk9_34 M) := by
  refine zMetC_of (zGt_ok hW _) rfl tbK9_ok rfl rfl (by decide +kernel) (Nat.le_of_ble_eq_true rfl) (fun X _ Z hA hE => ?_)
  obtain ⟨p, l', e, R, s, m, args, below, meth, c, Q⟩ := X
  obtain ⟨hR, -, hin, hs, ho1, ho2⟩ := id hA
  subst hR
  refine zblq Z rfl [(.aload 0, 1)] (S' := (1, [(0, .inr (.inr (some (9, 34))))], [.inr (.inr (some (9, 34)))], _)) (b := true) (by decide +kernel) rfl rfl ?_
  refine z_obj Z ol9_1 ol_in ol_cd ⟨by exact Nat.le_of_ble_eq_true rfl, by exact Nat.le_of_ble_eq_true rfl⟩ (by decide +kernel) ?_
  exact zret_c Z hA hE (by decide +kernel)
def mk9_35 (M : zM) : zM := M
set_option maxRecDepth 100000 in
theorem ct9_35 {l : Launch} {D : va_G} {ad : zR → Nat} {ca : Nat → ClassId} {A : Nat → Prop} {base : Nat} (hW : zWh zUC base ad A) (M : zM) : zMetC l yX9_init cX9_init 1 1 0 0 12 [.inr (.inr (some (9, 35)))] (base + 80) (zGt zUC D ad ca A 80) M (zGt zUC D ad ca A 80) (mk9_35 M) := by
  refine zMetC_of (zGt_ok hW _) rfl tbK9_ok rfl rfl (by decide +kernel) (Nat.le_of_ble_eq_true rfl) (fun X _ Z hA hE => ?_)
  obtain ⟨p, l', e, R, s, m, args, below, meth, c, Q⟩ := X
  obtain ⟨hR, -, hin, hs, ho1, ho2⟩ := id hA
  subst hR
  refine zblq Z rfl [(.aload 0, 1)] (S' := (1, [(0, .inr (.inr (some (9, 35))))], [.inr (.inr (some (9, 35)))], _)) (b := true) (by decide +kernel) rfl rfl ?_
  refine z_obj Z ol9_1 ol_in ol_cd ⟨by exact Nat.le_of_ble_eq_true rfl, by exact Nat.le_of_ble_eq_true rfl⟩ (by decide +kernel) ?_
  exact zret_c Z hA hE (by decide +kernel)
def mk9_36 (M : zM) : zM := M
set_option maxRecDepth 100000 in
theorem ct9_36 {l : Launch} {D : va_G} {ad : zR → Nat} {ca : Nat → ClassId} {A : Nat → Prop} {base : Nat} (hW : zWh zUC base ad A) (M : zM) : zMetC l yX9_init cX9_init 1 1 0 0 12 [.inr (.inr (some (9, 36)))] (base + 81) (zGt zUC D ad ca A 81) M (zGt zUC D ad ca A 81) (mk9_36 M) := by
  refine zMetC_of (zGt_ok hW _) rfl tbK9_ok rfl rfl (by decide +kernel) (Nat.le_of_ble_eq_true rfl) (fun X _ Z hA hE => ?_)
  obtain ⟨p, l', e, R, s, m, args, below, meth, c, Q⟩ := X
  obtain ⟨hR, -, hin, hs, ho1, ho2⟩ := id hA
  subst hR
  refine zblq Z rfl [(.aload 0, 1)] (S' := (1, [(0, .inr (.inr (some (9, 36))))], [.inr (.inr (some (9, 36)))], _)) (b := true) (by decide +kernel) rfl rfl ?_
  refine z_obj Z ol9_1 ol_in ol_cd ⟨by exact Nat.le_of_ble_eq_true rfl, by exact Nat.le_of_ble_eq_true rfl⟩ (by decide +kernel) ?_
  exact zret_c Z hA hE (by decide +kernel)
def mk9_37 (M : zM) : zM := M
set_option maxRecDepth 100000 in
theorem ct9_37 {l : Launch} {D : va_G} {ad : zR → Nat} {ca : Nat → ClassId} {A : Nat → Prop} {base : Nat} (hW : zWh zUC base ad A) (M : zM) : zMetC l yX9_init cX9_init 1 1 0 0 12 [.inr (.inr (some (9, 37)))] (base + 82) (zGt zUC D ad ca A 82) M (zGt zUC D ad ca A 82) (mk9_37 M) := by
  refine zMetC_of (zGt_ok hW _) rfl tbK9_ok rfl rfl (by decide +kernel) (Nat.le_of_ble_eq_true rfl) (fun X _ Z hA hE => ?_)
  obtain ⟨p, l', e, R, s, m, args, below, meth, c, Q⟩ := X
  obtain ⟨hR, -, hin, hs, ho1, ho2⟩ := id hA
  subst hR
  refine zblq Z rfl [(.aload 0, 1)] (S' := (1, [(0, .inr (.inr (some (9, 37))))], [.inr (.inr (some (9, 37)))], _)) (b := true) (by decide +kernel) rfl rfl ?_
  refine z_obj Z ol9_1 ol_in ol_cd ⟨by exact Nat.le_of_ble_eq_true rfl, by exact Nat.le_of_ble_eq_true rfl⟩ (by decide +kernel) ?_
  exact zret_c Z hA hE (by decide +kernel)
def mk8_6 (M : zM) : zM := zwF (mk9_37 (zclr (zwF (mk9_36 (zclr (zwF (mk9_35 (zclr (zwF (mk9_34 (zclr (zwF (zclr (zwF (zclr M 900 6) 8 6 0 (900, 6)) 901 6) 8 6 1 (901, 6)) 9 34)) 901 6 0 (9, 34)) 9 35)) 901 6 1 (9, 35)) 9 36)) 901 6 2 (9, 36)) 9 37)) 901 6 3 (9, 37)
set_option maxRecDepth 100000 in
theorem ct8_6 {l : Launch} {D : va_G} {ad : zR → Nat} {ca : Nat → ClassId} {A : Nat → Prop} {base : Nat} (hW : zWh zUC base ad A) (M : zM) : zMetC l yX8_init cX8_init 2 2 6 28 32 [.inr (.inr (some (8, 6)))] (base + 76) (zGt zUC D ad ca A 76) M (zGt zUC D ad ca A 82) (mk8_6 M) := by
  refine zMetC_of (zGt_ok hW _) rfl tbK8_ok rfl rfl (by decide +kernel) (Nat.le_of_ble_eq_true rfl) (fun X _ Z hA hE => ?_)
  obtain ⟨p, l', e, R, s, m, args, below, meth, c, Q⟩ := X
  obtain ⟨hR, -, hin, hs, ho1, ho2⟩ := id hA
  subst hR
  refine zblq Z rfl [(.aload 0, 1)] (S' := (1, [(0, .inr (.inr (some (8, 6))))], [.inr (.inr (some (8, 6)))], _)) (b := true) (by decide +kernel) rfl rfl ?_
  refine z_obj Z ol8_1 ol_in ol_cd ⟨by exact Nat.le_of_ble_eq_true rfl, by exact Nat.le_of_ble_eq_true rfl⟩ (by decide +kernel) ?_
  refine zblq Z rfl [(.aload 0, 1), (.iconst 4, 1)] (S' := (6, [(0, .inr (.inr (some (8, 6))))], [.inl (4 : Int32), .inr (.inr (some (8, 6)))], _)) (b := true) (by decide +kernel) rfl rfl ?_
  refine c_newa (n := 0) hW hs rfl (kk := 900) (i := 6) rfl Z (Or.inl ⟨rfl, rfl⟩) rfl acl_0 (by decide) ⟨by exact Nat.le_of_ble_eq_true rfl, by exact Nat.le_of_ble_eq_true rfl⟩ (by decide +kernel) ?_
  replace Z := c_Z Z hW 77
  refine c_putR Z (idx := 9) (ss := 0) (zmU (j := 75) rfl (by decide)) (by decide) (by decide) rfl (by decide +kernel) (Or.inr ⟨rfl, hin, rfl⟩) (by decide +kernel) ?_
  refine zblq Z rfl [(.aload 0, 1), (.iconst 4, 1)] (S' := (13, [(0, .inr (.inr (some (8, 6))))], [.inl (4 : Int32), .inr (.inr (some (8, 6)))], _)) (b := true) (by decide +kernel) rfl rfl ?_
  refine c_newq (n := 1) hW hs rfl (kk := 901) (i := 6) (C0 := "EarField$Sum") rfl Z (Or.inr ⟨rfl, rfl⟩) rfl lk8_13 ho2 (by decide) ⟨by exact Nat.le_of_ble_eq_true rfl, by exact Nat.le_of_ble_eq_true rfl⟩ (by decide +kernel) ?_
  replace Z := c_Z Z hW 78
  refine c_putR Z (idx := 15) (ss := 1) (zmU (j := 75) rfl (by decide)) (by decide) (by decide) rfl (by decide +kernel) (Or.inr ⟨rfl, hin, rfl⟩) (by decide +kernel) ?_
  refine zblq Z rfl [(.iconst 0, 1), (.istore 1, 1), (.iload 1, 1), (.iconst 4, 1)] (S' := (23, [(0, .inr (.inr (some (8, 6)))), (1, .inl (0 : Int32))], [.inl (4 : Int32), .inl (0 : Int32)], _)) (b := true) (by decide +kernel) rfl rfl ?_
  refine zic_ge Z (off := 22) (tgt := 45) (by decide +kernel) (by decide) (fun h => absurd h (by decide)) (fun _ => ?_)
  refine zblq Z rfl [(.aload 0, 1)] (S' := (27, [(0, .inr (.inr (some (8, 6)))), (1, .inl (0 : Int32))], [.inr (.inr (some (8, 6)))], _)) (b := true) (by decide +kernel) rfl rfl ?_
  refine c_getR Z (idx := 15) (ss := 1) (r := (901, 6)) (zmU (j := 75) rfl (by decide)) (by decide) (by decide) rfl (by decide +kernel) rfl (by decide +kernel) ?_
  refine zblq Z rfl [(.iload 1, 1)] (S' := (31, [(0, .inr (.inr (some (8, 6)))), (1, .inl (0 : Int32))], [.inl (0 : Int32), .inr (.inr (some (901, 6)))], _)) (b := true) (by decide +kernel) rfl rfl ?_
  refine c_new (n := 2) hW hs rfl (kk := 9) (i := 34) rfl Z (by decide) lk8_13 ist_9 ini_9 ⟨by exact Nat.le_of_ble_eq_true rfl, by exact Nat.le_of_ble_eq_true rfl⟩ (by decide +kernel) ?_
  replace Z := c_Z Z hW 79
  refine zblq Z rfl [(.dup, 1)] (S' := (35, [(0, .inr (.inr (some (8, 6)))), (1, .inl (0 : Int32))], [.inr (.inr (some (9, 34))), .inr (.inr (some (9, 34))), .inl (0 : Int32), .inr (.inr (some (901, 6)))], _)) (b := true) (by decide +kernel) rfl rfl ?_
  refine c_call (n := 3) hW hs rfl (by decide +kernel) Z (as := []) (st := [.inr (.inr (some (9, 34))), .inl (0 : Int32), .inr (.inr (some (901, 6)))]) (mc := 0) (ms := 0) (ct9_34 hW _) ho1 ho2 cwi8_19 mi9_in rfl rfl ⟨by exact Nat.le_of_ble_eq_true rfl, by exact Nat.le_of_ble_eq_true rfl⟩ rfl (by decide +kernel) ⟨by exact Nat.le_of_ble_eq_true rfl, by exact Nat.le_of_ble_eq_true rfl⟩ ?_
  replace Z := c_Z Z hW 79
  refine c_aast Z (t := 3) (jn := 0) (zmU (j := 77) rfl (by decide)) (zmU (j := 78) rfl (by decide)) ⟨rfl, Or.inr ⟨rfl, rfl⟩⟩ (by decide) (by decide) (by decide +kernel) ?_
  refine zblq Z rfl [(.iinc 1 1, 3), (.ldc 21, 3), (.iload 1, 1), (.iconst 4, 1)] (S' := (23, [(0, .inr (.inr (some (8, 6)))), (1, .inl (1 : Int32))], [.inl (4 : Int32), .inl (1 : Int32)], _)) (b := true) (by decide +kernel) rfl rfl ?_
  refine zic_ge Z (off := 22) (tgt := 45) (by decide +kernel) (by decide) (fun h => absurd h (by decide)) (fun _ => ?_)
  refine zblq Z rfl [(.aload 0, 1)] (S' := (27, [(0, .inr (.inr (some (8, 6)))), (1, .inl (1 : Int32))], [.inr (.inr (some (8, 6)))], _)) (b := true) (by decide +kernel) rfl rfl ?_
  refine c_getR Z (idx := 15) (ss := 1) (r := (901, 6)) (zmU (j := 75) rfl (by decide)) (by decide) (by decide) rfl (by decide +kernel) rfl (by decide +kernel) ?_
  refine zblq Z rfl [(.iload 1, 1)] (S' := (31, [(0, .inr (.inr (some (8, 6)))), (1, .inl (1 : Int32))], [.inl (1 : Int32), .inr (.inr (some (901, 6)))], _)) (b := true) (by decide +kernel) rfl rfl ?_
  refine c_new (n := 3) hW hs rfl (kk := 9) (i := 35) rfl Z (by decide) lk8_13 ist_9 ini_9 ⟨by exact Nat.le_of_ble_eq_true rfl, by exact Nat.le_of_ble_eq_true rfl⟩ (by decide +kernel) ?_
  replace Z := c_Z Z hW 80
  refine zblq Z rfl [(.dup, 1)] (S' := (35, [(0, .inr (.inr (some (8, 6)))), (1, .inl (1 : Int32))], [.inr (.inr (some (9, 35))), .inr (.inr (some (9, 35))), .inl (1 : Int32), .inr (.inr (some (901, 6)))], _)) (b := true) (by decide +kernel) rfl rfl ?_
  refine c_call (n := 4) hW hs rfl (by decide +kernel) Z (as := []) (st := [.inr (.inr (some (9, 35))), .inl (1 : Int32), .inr (.inr (some (901, 6)))]) (mc := 0) (ms := 0) (ct9_35 hW _) ho1 ho2 cwi8_19 mi9_in rfl rfl ⟨by exact Nat.le_of_ble_eq_true rfl, by exact Nat.le_of_ble_eq_true rfl⟩ rfl (by decide +kernel) ⟨by exact Nat.le_of_ble_eq_true rfl, by exact Nat.le_of_ble_eq_true rfl⟩ ?_
  replace Z := c_Z Z hW 80
  refine c_aast Z (t := 3) (jn := 1) (zmU (j := 77) rfl (by decide)) (zmU (j := 79) rfl (by decide)) ⟨rfl, Or.inr ⟨rfl, rfl⟩⟩ (by decide) (by decide) (by decide +kernel) ?_
  refine zblq Z rfl [(.iinc 1 1, 3), (.ldc 21, 3), (.iload 1, 1), (.iconst 4, 1)] (S' := (23, [(0, .inr (.inr (some (8, 6)))), (1, .inl (2 : Int32))], [.inl (4 : Int32), .inl (2 : Int32)], _)) (b := true) (by decide +kernel) rfl rfl ?_
  refine zic_ge Z (off := 22) (tgt := 45) (by decide +kernel) (by decide) (fun h => absurd h (by decide)) (fun _ => ?_)
  refine zblq Z rfl [(.aload 0, 1)] (S' := (27, [(0, .inr (.inr (some (8, 6)))), (1, .inl (2 : Int32))], [.inr (.inr (some (8, 6)))], _)) (b := true) (by decide +kernel) rfl rfl ?_
  refine c_getR Z (idx := 15) (ss := 1) (r := (901, 6)) (zmU (j := 75) rfl (by decide)) (by decide) (by decide) rfl (by decide +kernel) rfl (by decide +kernel) ?_
  refine zblq Z rfl [(.iload 1, 1)] (S' := (31, [(0, .inr (.inr (some (8, 6)))), (1, .inl (2 : Int32))], [.inl (2 : Int32), .inr (.inr (some (901, 6)))], _)) (b := true) (by decide +kernel) rfl rfl ?_
  refine c_new (n := 4) hW hs rfl (kk := 9) (i := 36) rfl Z (by decide) lk8_13 ist_9 ini_9 ⟨by exact Nat.le_of_ble_eq_true rfl, by exact Nat.le_of_ble_eq_true rfl⟩ (by decide +kernel) ?_
  replace Z := c_Z Z hW 81
  refine zblq Z rfl [(.dup, 1)] (S' := (35, [(0, .inr (.inr (some (8, 6)))), (1, .inl (2 : Int32))], [.inr (.inr (some (9, 36))), .inr (.inr (some (9, 36))), .inl (2 : Int32), .inr (.inr (some (901, 6)))], _)) (b := true) (by decide +kernel) rfl rfl ?_
  refine c_call (n := 5) hW hs rfl (by decide +kernel) Z (as := []) (st := [.inr (.inr (some (9, 36))), .inl (2 : Int32), .inr (.inr (some (901, 6)))]) (mc := 0) (ms := 0) (ct9_36 hW _) ho1 ho2 cwi8_19 mi9_in rfl rfl ⟨by exact Nat.le_of_ble_eq_true rfl, by exact Nat.le_of_ble_eq_true rfl⟩ rfl (by decide +kernel) ⟨by exact Nat.le_of_ble_eq_true rfl, by exact Nat.le_of_ble_eq_true rfl⟩ ?_
  replace Z := c_Z Z hW 81
  refine c_aast Z (t := 3) (jn := 2) (zmU (j := 77) rfl (by decide)) (zmU (j := 80) rfl (by decide)) ⟨rfl, Or.inr ⟨rfl, rfl⟩⟩ (by decide) (by decide) (by decide +kernel) ?_
  refine zblq Z rfl [(.iinc 1 1, 3), (.ldc 21, 3), (.iload 1, 1), (.iconst 4, 1)] (S' := (23, [(0, .inr (.inr (some (8, 6)))), (1, .inl (3 : Int32))], [.inl (4 : Int32), .inl (3 : Int32)], _)) (b := true) (by decide +kernel) rfl rfl ?_
  refine zic_ge Z (off := 22) (tgt := 45) (by decide +kernel) (by decide) (fun h => absurd h (by decide)) (fun _ => ?_)
  refine zblq Z rfl [(.aload 0, 1)] (S' := (27, [(0, .inr (.inr (some (8, 6)))), (1, .inl (3 : Int32))], [.inr (.inr (some (8, 6)))], _)) (b := true) (by decide +kernel) rfl rfl ?_
  refine c_getR Z (idx := 15) (ss := 1) (r := (901, 6)) (zmU (j := 75) rfl (by decide)) (by decide) (by decide) rfl (by decide +kernel) rfl (by decide +kernel) ?_
  refine zblq Z rfl [(.iload 1, 1)] (S' := (31, [(0, .inr (.inr (some (8, 6)))), (1, .inl (3 : Int32))], [.inl (3 : Int32), .inr (.inr (some (901, 6)))], _)) (b := true) (by decide +kernel) rfl rfl ?_
  refine c_new (n := 5) hW hs rfl (kk := 9) (i := 37) rfl Z (by decide) lk8_13 ist_9 ini_9 ⟨by exact Nat.le_of_ble_eq_true rfl, by exact Nat.le_of_ble_eq_true rfl⟩ (by decide +kernel) ?_
  replace Z := c_Z Z hW 82
  refine zblq Z rfl [(.dup, 1)] (S' := (35, [(0, .inr (.inr (some (8, 6)))), (1, .inl (3 : Int32))], [.inr (.inr (some (9, 37))), .inr (.inr (some (9, 37))), .inl (3 : Int32), .inr (.inr (some (901, 6)))], _)) (b := true) (by decide +kernel) rfl rfl ?_
  refine c_call (n := 6) hW hs rfl (by decide +kernel) Z (as := []) (st := [.inr (.inr (some (9, 37))), .inl (3 : Int32), .inr (.inr (some (901, 6)))]) (mc := 0) (ms := 0) (ct9_37 hW _) ho1 ho2 cwi8_19 mi9_in rfl rfl ⟨by exact Nat.le_of_ble_eq_true rfl, by exact Nat.le_of_ble_eq_true rfl⟩ rfl (by decide +kernel) ⟨by exact Nat.le_of_ble_eq_true rfl, by exact Nat.le_of_ble_eq_true rfl⟩ ?_
  replace Z := c_Z Z hW 82
  refine c_aast Z (t := 3) (jn := 3) (zmU (j := 77) rfl (by decide)) (zmU (j := 81) rfl (by decide)) ⟨rfl, Or.inr ⟨rfl, rfl⟩⟩ (by decide) (by decide) (by decide +kernel) ?_
  refine zblq Z rfl [(.iinc 1 1, 3), (.ldc 21, 3), (.iload 1, 1), (.iconst 4, 1)] (S' := (23, [(0, .inr (.inr (some (8, 6)))), (1, .inl (4 : Int32))], [.inl (4 : Int32), .inl (4 : Int32)], _)) (b := true) (by decide +kernel) rfl rfl ?_
  refine zic_ge Z (off := 22) (tgt := 45) (by decide +kernel) (by decide) (fun _ => ?_) (fun h => absurd (by decide) h)
  exact zret_c Z hA hE (by decide +kernel)
def mk2_6 (M : zM) : zM := zfl (zwI (zwF (zclr (zwF (mk8_6 (zclr (zwF (mk9_6 (zclr (zwF (zclr (zwI (zwI (zwI (zwI (zwI (zwI M 2 6 3 (1 : Int32)) 2 6 4 (1 : Int32)) 2 6 7 (-1 : Int32)) 2 6 8 (-1 : Int32)) 2 6 10 (16 : Int32)) 2 6 11 (36 : Int32)) 312 6) 2 6 12 (312, 6)) 9 6)) 2 6 13 (9, 6)) 8 6)) 2 6 15 (8, 6)) 317 6) 2 6 17 (317, 6)) 2 6 0 (6 : Int32)) 312 6 (zak 312).2 (16 : Int32)
set_option maxRecDepth 100000 in
theorem ct2_6 {l : Launch} {D : va_G} {ad : zR → Nat} {ca : Nat → ClassId} {A : Nat → Prop} {base : Nat} (hW : zWh zUC base ad A) (M : zM) : zMetC l yX2_init cX2_init 2 3 10 68 53 [.inr (.inr (some (2, 6))), .inl (6 : Int32)] (base + 73) (zGt zUC D ad ca A 73) M (zGt zUC D ad ca A 83) (mk2_6 M) := by
  refine zMetC_of (zGt_ok hW _) rfl tbK2_ok rfl rfl (by decide +kernel) (Nat.le_of_ble_eq_true rfl) (fun X _ Z hA hE => ?_)
  obtain ⟨p, l', e, R, s, m, args, below, meth, c, Q⟩ := X
  obtain ⟨hR, -, hin, hs, ho1, ho2⟩ := id hA
  subst hR
  refine zblq Z rfl [(.aload 0, 1)] (S' := (1, [(0, .inr (.inr (some (2, 6)))), (1, .inl (6 : Int32))], [.inr (.inr (some (2, 6)))], _)) (b := true) (by decide +kernel) rfl rfl ?_
  refine z_obj Z ol2_3 ol_in ol_cd ⟨by exact Nat.le_of_ble_eq_true rfl, by exact Nat.le_of_ble_eq_true rfl⟩ (by decide +kernel) ?_
  refine zblq Z rfl [(.aload 0, 1), (.iconst 1, 1)] (S' := (6, [(0, .inr (.inr (some (2, 6)))), (1, .inl (6 : Int32))], [.inl (1 : Int32), .inr (.inr (some (2, 6)))], _)) (b := true) (by decide +kernel) rfl rfl ?_
  refine c_putI Z (idx := 9) (ss := 3) (zmU (j := 72) rfl (by decide)) (by decide) (by decide) rfl (by decide +kernel) rfl (by decide +kernel) ?_
  refine zblq Z rfl [(.aload 0, 1), (.iconst 1, 1)] (S' := (11, [(0, .inr (.inr (some (2, 6)))), (1, .inl (6 : Int32))], [.inl (1 : Int32), .inr (.inr (some (2, 6)))], _)) (b := true) (by decide +kernel) rfl rfl ?_
  refine c_putI Z (idx := 15) (ss := 4) (zmU (j := 72) rfl (by decide)) (by decide) (by decide) rfl (by decide +kernel) rfl (by decide +kernel) ?_
  refine zblq Z rfl [(.aload 0, 1), (.iconst (-1), 1)] (S' := (16, [(0, .inr (.inr (some (2, 6)))), (1, .inl (6 : Int32))], [.inl (-1 : Int32), .inr (.inr (some (2, 6)))], _)) (b := true) (by decide +kernel) rfl rfl ?_
  refine c_putI Z (idx := 18) (ss := 7) (zmU (j := 72) rfl (by decide)) (by decide) (by decide) rfl (by decide +kernel) rfl (by decide +kernel) ?_
  refine zblq Z rfl [(.aload 0, 1), (.iconst (-1), 1)] (S' := (21, [(0, .inr (.inr (some (2, 6)))), (1, .inl (6 : Int32))], [.inl (-1 : Int32), .inr (.inr (some (2, 6)))], _)) (b := true) (by decide +kernel) rfl rfl ?_
  refine c_putI Z (idx := 21) (ss := 8) (zmU (j := 72) rfl (by decide)) (by decide) (by decide) rfl (by decide +kernel) rfl (by decide +kernel) ?_
  refine zblq Z rfl [(.aload 0, 1), (.iconst 16, 2)] (S' := (27, [(0, .inr (.inr (some (2, 6)))), (1, .inl (6 : Int32))], [.inl (16 : Int32), .inr (.inr (some (2, 6)))], _)) (b := true) (by decide +kernel) rfl rfl ?_
  refine c_putI Z (idx := 24) (ss := 10) (zmU (j := 72) rfl (by decide)) (by decide) (by decide) rfl (by decide +kernel) rfl (by decide +kernel) ?_
  refine zblq Z rfl [(.aload 0, 1), (.iconst 36, 2)] (S' := (33, [(0, .inr (.inr (some (2, 6)))), (1, .inl (6 : Int32))], [.inl (36 : Int32), .inr (.inr (some (2, 6)))], _)) (b := true) (by decide +kernel) rfl rfl ?_
  refine c_putI Z (idx := 27) (ss := 11) (zmU (j := 72) rfl (by decide)) (by decide) (by decide) rfl (by decide +kernel) rfl (by decide +kernel) ?_
  refine zblq Z rfl [(.aload 0, 1), (.iconst 24, 2)] (S' := (39, [(0, .inr (.inr (some (2, 6)))), (1, .inl (6 : Int32))], [.inl (24 : Int32), .inr (.inr (some (2, 6)))], _)) (b := true) (by decide +kernel) rfl rfl ?_
  refine c_newa (n := 0) hW hs rfl (kk := 312) (i := 6) rfl Z (Or.inl ⟨rfl, rfl⟩) rfl acl_0 (by decide) ⟨by exact Nat.le_of_ble_eq_true rfl, by exact Nat.le_of_ble_eq_true rfl⟩ (by decide +kernel) ?_
  replace Z := c_Z Z hW 74
  refine c_putR Z (idx := 30) (ss := 12) (zmU (j := 72) rfl (by decide)) (by decide) (by decide) rfl (by decide +kernel) (Or.inr ⟨rfl, hin, rfl⟩) (by decide +kernel) ?_
  refine zblq Z rfl [(.aload 0, 1)] (S' := (45, [(0, .inr (.inr (some (2, 6)))), (1, .inl (6 : Int32))], [.inr (.inr (some (2, 6)))], _)) (b := true) (by decide +kernel) rfl rfl ?_
  refine c_new (n := 1) hW hs rfl (kk := 9) (i := 6) rfl Z (by decide) lk2_34 ist_9 ini_9 ⟨by exact Nat.le_of_ble_eq_true rfl, by exact Nat.le_of_ble_eq_true rfl⟩ (by decide +kernel) ?_
  replace Z := c_Z Z hW 75
  refine zblq Z rfl [(.dup, 1)] (S' := (49, [(0, .inr (.inr (some (2, 6)))), (1, .inl (6 : Int32))], [.inr (.inr (some (9, 6))), .inr (.inr (some (9, 6))), .inr (.inr (some (2, 6)))], _)) (b := true) (by decide +kernel) rfl rfl ?_
  refine c_call (n := 2) hW hs rfl (by decide +kernel) Z (as := []) (st := [.inr (.inr (some (9, 6))), .inr (.inr (some (2, 6)))]) (mc := 0) (ms := 0) (ct9_6 hW _) ho1 ho2 cwi2_36 mi9_in rfl rfl ⟨by exact Nat.le_of_ble_eq_true rfl, by exact Nat.le_of_ble_eq_true rfl⟩ rfl (by decide +kernel) ⟨by exact Nat.le_of_ble_eq_true rfl, by exact Nat.le_of_ble_eq_true rfl⟩ ?_
  replace Z := c_Z Z hW 75
  refine c_putR Z (idx := 37) (ss := 13) (zmU (j := 72) rfl (by decide)) (by decide) (by decide) rfl (by decide +kernel) (Or.inr ⟨rfl, hin, rfl⟩) (by decide +kernel) ?_
  refine zblq Z rfl [(.aload 0, 1)] (S' := (56, [(0, .inr (.inr (some (2, 6)))), (1, .inl (6 : Int32))], [.inr (.inr (some (2, 6)))], _)) (b := true) (by decide +kernel) rfl rfl ?_
  refine c_new (n := 2) hW hs rfl (kk := 8) (i := 6) rfl Z (by decide) lk2_41 ist_8 ini_8 ⟨by exact Nat.le_of_ble_eq_true rfl, by exact Nat.le_of_ble_eq_true rfl⟩ (by decide +kernel) ?_
  replace Z := c_Z Z hW 76
  refine zblq Z rfl [(.dup, 1)] (S' := (60, [(0, .inr (.inr (some (2, 6)))), (1, .inl (6 : Int32))], [.inr (.inr (some (8, 6))), .inr (.inr (some (8, 6))), .inr (.inr (some (2, 6)))], _)) (b := true) (by decide +kernel) rfl rfl ?_
  refine c_call (n := 3) hW hs rfl (by decide +kernel) Z (as := []) (st := [.inr (.inr (some (8, 6))), .inr (.inr (some (2, 6)))]) (mc := 6) (ms := 28) (ct8_6 hW _) ho1 ho2 cwi2_43 mi8_in rfl rfl ⟨by exact Nat.le_of_ble_eq_true rfl, by exact Nat.le_of_ble_eq_true rfl⟩ rfl (by decide +kernel) ⟨by exact Nat.le_of_ble_eq_true rfl, by exact Nat.le_of_ble_eq_true rfl⟩ ?_
  replace Z := c_Z Z hW 82
  refine c_putR Z (idx := 44) (ss := 15) (zmU (j := 72) rfl (by decide)) (by decide) (by decide) rfl (by decide +kernel) (Or.inr ⟨rfl, hin, rfl⟩) (by decide +kernel) ?_
  refine zblq Z rfl [(.aload 0, 1), (.iconst 8, 2)] (S' := (69, [(0, .inr (.inr (some (2, 6)))), (1, .inl (6 : Int32))], [.inl (8 : Int32), .inr (.inr (some (2, 6)))], _)) (b := true) (by decide +kernel) rfl rfl ?_
  refine c_newa (n := 9) hW hs rfl (kk := 317) (i := 6) rfl Z (Or.inl ⟨rfl, rfl⟩) rfl acl_0 (by decide) ⟨by exact Nat.le_of_ble_eq_true rfl, by exact Nat.le_of_ble_eq_true rfl⟩ (by decide +kernel) ?_
  replace Z := c_Z Z hW 83
  refine c_putR Z (idx := 50) (ss := 17) (zmU (j := 72) rfl (by decide)) (by decide) (by decide) rfl (by decide +kernel) (Or.inr ⟨rfl, hin, rfl⟩) (by decide +kernel) ?_
  refine zblq Z rfl [(.aload 0, 1), (.iload 1, 1)] (S' := (76, [(0, .inr (.inr (some (2, 6)))), (1, .inl (6 : Int32))], [.inl (6 : Int32), .inr (.inr (some (2, 6)))], _)) (b := true) (by decide +kernel) rfl rfl ?_
  refine c_putF Z (idx := 53) (ss := 0) (zmU (j := 72) rfl (by decide)) (by decide) (by decide) rfl (by decide +kernel) ⟨rfl, hin, rfl⟩ (by decide +kernel) ?_
  refine zblq Z rfl [(.aload 0, 1)] (S' := (80, [(0, .inr (.inr (some (2, 6)))), (1, .inl (6 : Int32))], [.inr (.inr (some (2, 6)))], _)) (b := true) (by decide +kernel) rfl rfl ?_
  refine c_getR Z (idx := 30) (ss := 12) (r := (312, 6)) (zmU (j := 72) rfl (by decide)) (by decide) (by decide) rfl (by decide +kernel) rfl (by decide +kernel) ?_
  refine zblq Z rfl [(.iconst 16, 2)] (S' := (85, [(0, .inr (.inr (some (2, 6)))), (1, .inl (6 : Int32))], [.inl (16 : Int32), .inr (.inr (some (312, 6)))], _)) (b := true) (by decide +kernel) rfl rfl ?_
  refine zcallS Z (as := [.inr (.inr (some (312, 6))), .inl (16 : Int32)]) (st := []) (c_fill (zGt_ok hW _) (zmU (j := 73) rfl (by decide)) rfl (by decide)) cwi2_56 mJ7_fill_in rfl ⟨by exact Nat.le_of_ble_eq_true rfl, by exact Nat.le_of_ble_eq_true rfl⟩ rfl (by decide +kernel) ⟨by exact Nat.le_of_ble_eq_true rfl, by exact Nat.le_of_ble_eq_true rfl⟩ ?_
  exact zret_c Z hA hE (by decide +kernel)
def mk9_7 (M : zM) : zM := M
set_option maxRecDepth 100000 in
theorem ct9_7 {l : Launch} {D : va_G} {ad : zR → Nat} {ca : Nat → ClassId} {A : Nat → Prop} {base : Nat} (hW : zWh zUC base ad A) (M : zM) : zMetC l yX9_init cX9_init 1 1 0 0 12 [.inr (.inr (some (9, 7)))] (base + 86) (zGt zUC D ad ca A 86) M (zGt zUC D ad ca A 86) (mk9_7 M) := by
  refine zMetC_of (zGt_ok hW _) rfl tbK9_ok rfl rfl (by decide +kernel) (Nat.le_of_ble_eq_true rfl) (fun X _ Z hA hE => ?_)
  obtain ⟨p, l', e, R, s, m, args, below, meth, c, Q⟩ := X
  obtain ⟨hR, -, hin, hs, ho1, ho2⟩ := id hA
  subst hR
  refine zblq Z rfl [(.aload 0, 1)] (S' := (1, [(0, .inr (.inr (some (9, 7))))], [.inr (.inr (some (9, 7)))], _)) (b := true) (by decide +kernel) rfl rfl ?_
  refine z_obj Z ol9_1 ol_in ol_cd ⟨by exact Nat.le_of_ble_eq_true rfl, by exact Nat.le_of_ble_eq_true rfl⟩ (by decide +kernel) ?_
  exact zret_c Z hA hE (by decide +kernel)
def mk9_38 (M : zM) : zM := M
set_option maxRecDepth 100000 in
theorem ct9_38 {l : Launch} {D : va_G} {ad : zR → Nat} {ca : Nat → ClassId} {A : Nat → Prop} {base : Nat} (hW : zWh zUC base ad A) (M : zM) : zMetC l yX9_init cX9_init 1 1 0 0 12 [.inr (.inr (some (9, 38)))] (base + 90) (zGt zUC D ad ca A 90) M (zGt zUC D ad ca A 90) (mk9_38 M) := by
  refine zMetC_of (zGt_ok hW _) rfl tbK9_ok rfl rfl (by decide +kernel) (Nat.le_of_ble_eq_true rfl) (fun X _ Z hA hE => ?_)
  obtain ⟨p, l', e, R, s, m, args, below, meth, c, Q⟩ := X
  obtain ⟨hR, -, hin, hs, ho1, ho2⟩ := id hA
  subst hR
  refine zblq Z rfl [(.aload 0, 1)] (S' := (1, [(0, .inr (.inr (some (9, 38))))], [.inr (.inr (some (9, 38)))], _)) (b := true) (by decide +kernel) rfl rfl ?_
  refine z_obj Z ol9_1 ol_in ol_cd ⟨by exact Nat.le_of_ble_eq_true rfl, by exact Nat.le_of_ble_eq_true rfl⟩ (by decide +kernel) ?_
  exact zret_c Z hA hE (by decide +kernel)
def mk9_39 (M : zM) : zM := M
set_option maxRecDepth 100000 in
theorem ct9_39 {l : Launch} {D : va_G} {ad : zR → Nat} {ca : Nat → ClassId} {A : Nat → Prop} {base : Nat} (hW : zWh zUC base ad A) (M : zM) : zMetC l yX9_init cX9_init 1 1 0 0 12 [.inr (.inr (some (9, 39)))] (base + 91) (zGt zUC D ad ca A 91) M (zGt zUC D ad ca A 91) (mk9_39 M) := by
  refine zMetC_of (zGt_ok hW _) rfl tbK9_ok rfl rfl (by decide +kernel) (Nat.le_of_ble_eq_true rfl) (fun X _ Z hA hE => ?_)
  obtain ⟨p, l', e, R, s, m, args, below, meth, c, Q⟩ := X
  obtain ⟨hR, -, hin, hs, ho1, ho2⟩ := id hA
  subst hR
  refine zblq Z rfl [(.aload 0, 1)] (S' := (1, [(0, .inr (.inr (some (9, 39))))], [.inr (.inr (some (9, 39)))], _)) (b := true) (by decide +kernel) rfl rfl ?_
  refine z_obj Z ol9_1 ol_in ol_cd ⟨by exact Nat.le_of_ble_eq_true rfl, by exact Nat.le_of_ble_eq_true rfl⟩ (by decide +kernel) ?_
  exact zret_c Z hA hE (by decide +kernel)
def mk9_40 (M : zM) : zM := M
set_option maxRecDepth 100000 in
theorem ct9_40 {l : Launch} {D : va_G} {ad : zR → Nat} {ca : Nat → ClassId} {A : Nat → Prop} {base : Nat} (hW : zWh zUC base ad A) (M : zM) : zMetC l yX9_init cX9_init 1 1 0 0 12 [.inr (.inr (some (9, 40)))] (base + 92) (zGt zUC D ad ca A 92) M (zGt zUC D ad ca A 92) (mk9_40 M) := by
  refine zMetC_of (zGt_ok hW _) rfl tbK9_ok rfl rfl (by decide +kernel) (Nat.le_of_ble_eq_true rfl) (fun X _ Z hA hE => ?_)
  obtain ⟨p, l', e, R, s, m, args, below, meth, c, Q⟩ := X
  obtain ⟨hR, -, hin, hs, ho1, ho2⟩ := id hA
  subst hR
  refine zblq Z rfl [(.aload 0, 1)] (S' := (1, [(0, .inr (.inr (some (9, 40))))], [.inr (.inr (some (9, 40)))], _)) (b := true) (by decide +kernel) rfl rfl ?_
  refine z_obj Z ol9_1 ol_in ol_cd ⟨by exact Nat.le_of_ble_eq_true rfl, by exact Nat.le_of_ble_eq_true rfl⟩ (by decide +kernel) ?_
  exact zret_c Z hA hE (by decide +kernel)
def mk9_41 (M : zM) : zM := M
set_option maxRecDepth 100000 in
theorem ct9_41 {l : Launch} {D : va_G} {ad : zR → Nat} {ca : Nat → ClassId} {A : Nat → Prop} {base : Nat} (hW : zWh zUC base ad A) (M : zM) : zMetC l yX9_init cX9_init 1 1 0 0 12 [.inr (.inr (some (9, 41)))] (base + 93) (zGt zUC D ad ca A 93) M (zGt zUC D ad ca A 93) (mk9_41 M) := by
  refine zMetC_of (zGt_ok hW _) rfl tbK9_ok rfl rfl (by decide +kernel) (Nat.le_of_ble_eq_true rfl) (fun X _ Z hA hE => ?_)
  obtain ⟨p, l', e, R, s, m, args, below, meth, c, Q⟩ := X
  obtain ⟨hR, -, hin, hs, ho1, ho2⟩ := id hA
  subst hR
  refine zblq Z rfl [(.aload 0, 1)] (S' := (1, [(0, .inr (.inr (some (9, 41))))], [.inr (.inr (some (9, 41)))], _)) (b := true) (by decide +kernel) rfl rfl ?_
  refine z_obj Z ol9_1 ol_in ol_cd ⟨by exact Nat.le_of_ble_eq_true rfl, by exact Nat.le_of_ble_eq_true rfl⟩ (by decide +kernel) ?_
  exact zret_c Z hA hE (by decide +kernel)
