def mk3_0 (M : zM) : zM := zwF (mk2_9 (zclr (zwF (mk2_8 (zclr (zwF (mk2_7 (zclr (zwF (mk2_6 (zclr (zwF (mk2_5 (zclr (zwF (mk2_4 (zclr (zwF (mk2_3 (zclr (zwF (mk2_2 (zclr (zwF (mk2_1 (zclr (zwF (mk2_0 (zclr (zwF (zclr (zwF (zclr (zwF (zwI (zwI (zwI (zwI (zwI (zwI (zwI (zclr (zwF (zclr M 400 0) 3 0 0 (400, 0)) 401 0) 401 0 0 (0 : Int32)) 401 0 1 (1 : Int32)) 401 0 2 (5 : Int32)) 401 0 3 (2 : Int32)) 401 0 4 (1 : Int32)) 401 0 5 (2 : Int32)) 401 0 6 (0 : Int32)) 3 0 1 (401, 0)) 402 0) 3 0 2 (402, 0)) 403 0) 3 0 3 (403, 0)) 2 0)) 400 0 0 (2, 0)) 2 1)) 400 0 1 (2, 1)) 2 2)) 400 0 2 (2, 2)) 2 3)) 400 0 3 (2, 3)) 2 4)) 400 0 4 (2, 4)) 2 5)) 400 0 5 (2, 5)) 2 6)) 400 0 6 (2, 6)) 2 7)) 400 0 7 (2, 7)) 2 8)) 400 0 8 (2, 8)) 2 9)) 400 0 9 (2, 9)
set_option maxRecDepth 100000 in
theorem ct3_0 {l : Launch} {D : va_G} {ad : zR → Nat} {ca : Nat → ClassId} {A : Nat → Prop} {base : Nat} (hW : zWh zUC base ad A) (M : zM) : zMetC l yX3_init cX3_init 2 4 114 907 74 [.inr (.inr (some (3, 0)))] (base + 2) (zGt zUC D ad ca A 2) M (zGt zUC D ad ca A 116) (mk3_0 M) := by
  refine zMetC_of (zGt_ok hW _) rfl tbK3_ok rfl rfl (by decide +kernel) (Nat.le_of_ble_eq_true rfl) (fun X _ Z hA hE => ?_)
  obtain ⟨p, l', e, R, s, m, args, below, meth, c, Q⟩ := X
  obtain ⟨hR, -, hin, hs, ho1, ho2⟩ := id hA
  subst hR
  refine zblq Z rfl [(.aload 0, 1)] (S' := (1, [(0, .inr (.inr (some (3, 0))))], [.inr (.inr (some (3, 0)))], _)) (b := true) (by decide +kernel) rfl rfl ?_
  refine z_obj Z ol3_3 ol_in ol_cd ⟨by exact Nat.le_of_ble_eq_true rfl, by exact Nat.le_of_ble_eq_true rfl⟩ (by decide +kernel) ?_
  refine zblq Z rfl [(.aload 0, 1), (.iconst 10, 2)] (S' := (7, [(0, .inr (.inr (some (3, 0))))], [.inl (10 : Int32), .inr (.inr (some (3, 0)))], _)) (b := true) (by decide +kernel) rfl rfl ?_
  refine c_newq (n := 0) hW hs rfl (kk := 400) (i := 0) (C0 := "EarField$Box") rfl Z (Or.inl ⟨rfl, rfl⟩) rfl lk3_11 ho1 (by decide) ⟨by exact Nat.le_of_ble_eq_true rfl, by exact Nat.le_of_ble_eq_true rfl⟩ (by decide +kernel) ?_
  replace Z := c_Z Z hW 3
  refine c_putR Z (idx := 13) (ss := 0) (zmU (j := 1) rfl (by decide)) (by decide) (by decide) rfl (by decide +kernel) (Or.inr ⟨rfl, hin, rfl⟩) (by decide +kernel) ?_
  refine zblq Z rfl [(.aload 0, 1), (.iconst 7, 2)] (S' := (16, [(0, .inr (.inr (some (3, 0))))], [.inl (7 : Int32), .inr (.inr (some (3, 0)))], _)) (b := true) (by decide +kernel) rfl rfl ?_
  refine c_newa (n := 1) hW hs rfl (kk := 401) (i := 0) rfl Z (Or.inl ⟨rfl, rfl⟩) rfl acl_0 (by decide) ⟨by exact Nat.le_of_ble_eq_true rfl, by exact Nat.le_of_ble_eq_true rfl⟩ (by decide +kernel) ?_
  replace Z := c_Z Z hW 4
  refine zblq Z rfl [(.dup, 1), (.iconst 0, 1), (.iconst 0, 1)] (S' := (21, [(0, .inr (.inr (some (3, 0))))], [.inl (0 : Int32), .inl (0 : Int32), .inr (.inr (some (401, 0))), .inr (.inr (some (401, 0))), .inr (.inr (some (3, 0)))], _)) (b := true) (by decide +kernel) rfl rfl ?_
  refine c_iast Z (jn := 0) (zmU (j := 3) rfl (by decide)) rfl (by decide) (by decide) (by decide +kernel) ?_
  refine zblq Z rfl [(.dup, 1), (.iconst 1, 1), (.iconst 1, 1)] (S' := (25, [(0, .inr (.inr (some (3, 0))))], [.inl (1 : Int32), .inl (1 : Int32), .inr (.inr (some (401, 0))), .inr (.inr (some (401, 0))), .inr (.inr (some (3, 0)))], _)) (b := true) (by decide +kernel) rfl rfl ?_
  refine c_iast Z (jn := 1) (zmU (j := 3) rfl (by decide)) rfl (by decide) (by decide) (by decide +kernel) ?_
  refine zblq Z rfl [(.dup, 1), (.iconst 2, 1), (.iconst 5, 1)] (S' := (29, [(0, .inr (.inr (some (3, 0))))], [.inl (5 : Int32), .inl (2 : Int32), .inr (.inr (some (401, 0))), .inr (.inr (some (401, 0))), .inr (.inr (some (3, 0)))], _)) (b := true) (by decide +kernel) rfl rfl ?_
  refine c_iast Z (jn := 2) (zmU (j := 3) rfl (by decide)) rfl (by decide) (by decide) (by decide +kernel) ?_
  refine zblq Z rfl [(.dup, 1), (.iconst 3, 1), (.iconst 2, 1)] (S' := (33, [(0, .inr (.inr (some (3, 0))))], [.inl (2 : Int32), .inl (3 : Int32), .inr (.inr (some (401, 0))), .inr (.inr (some (401, 0))), .inr (.inr (some (3, 0)))], _)) (b := true) (by decide +kernel) rfl rfl ?_
  refine c_iast Z (jn := 3) (zmU (j := 3) rfl (by decide)) rfl (by decide) (by decide) (by decide +kernel) ?_
  refine zblq Z rfl [(.dup, 1), (.iconst 4, 1), (.iconst 1, 1)] (S' := (37, [(0, .inr (.inr (some (3, 0))))], [.inl (1 : Int32), .inl (4 : Int32), .inr (.inr (some (401, 0))), .inr (.inr (some (401, 0))), .inr (.inr (some (3, 0)))], _)) (b := true) (by decide +kernel) rfl rfl ?_
  refine c_iast Z (jn := 4) (zmU (j := 3) rfl (by decide)) rfl (by decide) (by decide) (by decide +kernel) ?_
  refine zblq Z rfl [(.dup, 1), (.iconst 5, 1), (.iconst 2, 1)] (S' := (41, [(0, .inr (.inr (some (3, 0))))], [.inl (2 : Int32), .inl (5 : Int32), .inr (.inr (some (401, 0))), .inr (.inr (some (401, 0))), .inr (.inr (some (3, 0)))], _)) (b := true) (by decide +kernel) rfl rfl ?_
  refine c_iast Z (jn := 5) (zmU (j := 3) rfl (by decide)) rfl (by decide) (by decide) (by decide +kernel) ?_
  refine zblq Z rfl [(.dup, 1), (.iconst 6, 2), (.iconst 0, 1)] (S' := (46, [(0, .inr (.inr (some (3, 0))))], [.inl (0 : Int32), .inl (6 : Int32), .inr (.inr (some (401, 0))), .inr (.inr (some (401, 0))), .inr (.inr (some (3, 0)))], _)) (b := true) (by decide +kernel) rfl rfl ?_
  refine c_iast Z (jn := 6) (zmU (j := 3) rfl (by decide)) rfl (by decide) (by decide) (by decide +kernel) ?_
  refine c_putR Z (idx := 17) (ss := 1) (zmU (j := 1) rfl (by decide)) (by decide) (by decide) rfl (by decide +kernel) (Or.inr ⟨rfl, hin, rfl⟩) (by decide +kernel) ?_
  refine zblq Z rfl [(.aload 0, 1), (.iconst 10, 2)] (S' := (53, [(0, .inr (.inr (some (3, 0))))], [.inl (10 : Int32), .inr (.inr (some (3, 0)))], _)) (b := true) (by decide +kernel) rfl rfl ?_
  refine c_newa (n := 2) hW hs rfl (kk := 402) (i := 0) rfl Z (Or.inl ⟨rfl, rfl⟩) rfl acl_0 (by decide) ⟨by exact Nat.le_of_ble_eq_true rfl, by exact Nat.le_of_ble_eq_true rfl⟩ (by decide +kernel) ?_
  replace Z := c_Z Z hW 5
  refine c_putR Z (idx := 21) (ss := 2) (zmU (j := 1) rfl (by decide)) (by decide) (by decide) rfl (by decide +kernel) (Or.inr ⟨rfl, hin, rfl⟩) (by decide +kernel) ?_
  refine zblq Z rfl [(.aload 0, 1), (.iconst 10, 2)] (S' := (61, [(0, .inr (.inr (some (3, 0))))], [.inl (10 : Int32), .inr (.inr (some (3, 0)))], _)) (b := true) (by decide +kernel) rfl rfl ?_
  refine c_newa (n := 3) hW hs rfl (kk := 403) (i := 0) rfl Z (Or.inl ⟨rfl, rfl⟩) rfl acl_0 (by decide) ⟨by exact Nat.le_of_ble_eq_true rfl, by exact Nat.le_of_ble_eq_true rfl⟩ (by decide +kernel) ?_
  replace Z := c_Z Z hW 6
  refine c_putR Z (idx := 24) (ss := 3) (zmU (j := 1) rfl (by decide)) (by decide) (by decide) rfl (by decide +kernel) (Or.inr ⟨rfl, hin, rfl⟩) (by decide +kernel) ?_
  refine zblq Z rfl [(.iconst 0, 1), (.istore 1, 1), (.iload 1, 1), (.iconst 10, 2)] (S' := (71, [(0, .inr (.inr (some (3, 0)))), (1, .inl (0 : Int32))], [.inl (10 : Int32), .inl (0 : Int32)], _)) (b := true) (by decide +kernel) rfl rfl ?_
  refine zic_ge Z (off := 23) (tgt := 94) (by decide +kernel) (by decide) (fun h => absurd h (by decide)) (fun _ => ?_)
  refine zblq Z rfl [(.aload 0, 1)] (S' := (75, [(0, .inr (.inr (some (3, 0)))), (1, .inl (0 : Int32))], [.inr (.inr (some (3, 0)))], _)) (b := true) (by decide +kernel) rfl rfl ?_
  refine c_getR Z (idx := 13) (ss := 0) (r := (400, 0)) (zmU (j := 1) rfl (by decide)) (by decide) (by decide) rfl (by decide +kernel) rfl (by decide +kernel) ?_
  refine zblq Z rfl [(.iload 1, 1)] (S' := (79, [(0, .inr (.inr (some (3, 0)))), (1, .inl (0 : Int32))], [.inl (0 : Int32), .inr (.inr (some (400, 0)))], _)) (b := true) (by decide +kernel) rfl rfl ?_
  refine c_new (n := 4) hW hs rfl (kk := 2) (i := 0) rfl Z (by decide) lk3_11 ist_2 ini_2 ⟨by exact Nat.le_of_ble_eq_true rfl, by exact Nat.le_of_ble_eq_true rfl⟩ (by decide +kernel) ?_
  replace Z := c_Z Z hW 7
  refine zblq Z rfl [(.dup, 1), (.iload 1, 1)] (S' := (84, [(0, .inr (.inr (some (3, 0)))), (1, .inl (0 : Int32))], [.inl (0 : Int32), .inr (.inr (some (2, 0))), .inr (.inr (some (2, 0))), .inl (0 : Int32), .inr (.inr (some (400, 0)))], _)) (b := true) (by decide +kernel) rfl rfl ?_
  refine c_call (n := 5) hW hs rfl (by decide +kernel) Z (as := [.inl (0 : Int32)]) (st := [.inr (.inr (some (2, 0))), .inl (0 : Int32), .inr (.inr (some (400, 0)))]) (mc := 10) (ms := 68) (ct2_0 hW _) ho1 ho2 cwi3_27 mi2_in rfl rfl ⟨by exact Nat.le_of_ble_eq_true rfl, by exact Nat.le_of_ble_eq_true rfl⟩ rfl (by decide +kernel) ⟨by exact Nat.le_of_ble_eq_true rfl, by exact Nat.le_of_ble_eq_true rfl⟩ ?_
  replace Z := c_Z Z hW 17
  refine c_aast Z (t := 2) (jn := 0) (zmU (j := 2) rfl (by decide)) (zmU (j := 6) rfl (by decide)) ⟨rfl, Or.inl ⟨rfl, rfl⟩⟩ (by decide) (by decide) (by decide +kernel) ?_
  refine zblq Z rfl [(.iinc 1 1, 3), (.ldc 68, 3), (.iload 1, 1), (.iconst 10, 2)] (S' := (71, [(0, .inr (.inr (some (3, 0)))), (1, .inl (1 : Int32))], [.inl (10 : Int32), .inl (1 : Int32)], _)) (b := true) (by decide +kernel) rfl rfl ?_
  refine zic_ge Z (off := 23) (tgt := 94) (by decide +kernel) (by decide) (fun h => absurd h (by decide)) (fun _ => ?_)
  refine zblq Z rfl [(.aload 0, 1)] (S' := (75, [(0, .inr (.inr (some (3, 0)))), (1, .inl (1 : Int32))], [.inr (.inr (some (3, 0)))], _)) (b := true) (by decide +kernel) rfl rfl ?_
  refine c_getR Z (idx := 13) (ss := 0) (r := (400, 0)) (zmU (j := 1) rfl (by decide)) (by decide) (by decide) rfl (by decide +kernel) rfl (by decide +kernel) ?_
  refine zblq Z rfl [(.iload 1, 1)] (S' := (79, [(0, .inr (.inr (some (3, 0)))), (1, .inl (1 : Int32))], [.inl (1 : Int32), .inr (.inr (some (400, 0)))], _)) (b := true) (by decide +kernel) rfl rfl ?_
  refine c_new (n := 15) hW hs rfl (kk := 2) (i := 1) rfl Z (by decide) lk3_11 ist_2 ini_2 ⟨by exact Nat.le_of_ble_eq_true rfl, by exact Nat.le_of_ble_eq_true rfl⟩ (by decide +kernel) ?_
  replace Z := c_Z Z hW 18
  refine zblq Z rfl [(.dup, 1), (.iload 1, 1)] (S' := (84, [(0, .inr (.inr (some (3, 0)))), (1, .inl (1 : Int32))], [.inl (1 : Int32), .inr (.inr (some (2, 1))), .inr (.inr (some (2, 1))), .inl (1 : Int32), .inr (.inr (some (400, 0)))], _)) (b := true) (by decide +kernel) rfl rfl ?_
  refine c_call (n := 16) hW hs rfl (by decide +kernel) Z (as := [.inl (1 : Int32)]) (st := [.inr (.inr (some (2, 1))), .inl (1 : Int32), .inr (.inr (some (400, 0)))]) (mc := 10) (ms := 68) (ct2_1 hW _) ho1 ho2 cwi3_27 mi2_in rfl rfl ⟨by exact Nat.le_of_ble_eq_true rfl, by exact Nat.le_of_ble_eq_true rfl⟩ rfl (by decide +kernel) ⟨by exact Nat.le_of_ble_eq_true rfl, by exact Nat.le_of_ble_eq_true rfl⟩ ?_
  replace Z := c_Z Z hW 28
  refine c_aast Z (t := 2) (jn := 1) (zmU (j := 2) rfl (by decide)) (zmU (j := 17) rfl (by decide)) ⟨rfl, Or.inl ⟨rfl, rfl⟩⟩ (by decide) (by decide) (by decide +kernel) ?_
  refine zblq Z rfl [(.iinc 1 1, 3), (.ldc 68, 3), (.iload 1, 1), (.iconst 10, 2)] (S' := (71, [(0, .inr (.inr (some (3, 0)))), (1, .inl (2 : Int32))], [.inl (10 : Int32), .inl (2 : Int32)], _)) (b := true) (by decide +kernel) rfl rfl ?_
  refine zic_ge Z (off := 23) (tgt := 94) (by decide +kernel) (by decide) (fun h => absurd h (by decide)) (fun _ => ?_)
  refine zblq Z rfl [(.aload 0, 1)] (S' := (75, [(0, .inr (.inr (some (3, 0)))), (1, .inl (2 : Int32))], [.inr (.inr (some (3, 0)))], _)) (b := true) (by decide +kernel) rfl rfl ?_
  refine c_getR Z (idx := 13) (ss := 0) (r := (400, 0)) (zmU (j := 1) rfl (by decide)) (by decide) (by decide) rfl (by decide +kernel) rfl (by decide +kernel) ?_
  refine zblq Z rfl [(.iload 1, 1)] (S' := (79, [(0, .inr (.inr (some (3, 0)))), (1, .inl (2 : Int32))], [.inl (2 : Int32), .inr (.inr (some (400, 0)))], _)) (b := true) (by decide +kernel) rfl rfl ?_
  refine c_new (n := 26) hW hs rfl (kk := 2) (i := 2) rfl Z (by decide) lk3_11 ist_2 ini_2 ⟨by exact Nat.le_of_ble_eq_true rfl, by exact Nat.le_of_ble_eq_true rfl⟩ (by decide +kernel) ?_
  replace Z := c_Z Z hW 29
  refine zblq Z rfl [(.dup, 1), (.iload 1, 1)] (S' := (84, [(0, .inr (.inr (some (3, 0)))), (1, .inl (2 : Int32))], [.inl (2 : Int32), .inr (.inr (some (2, 2))), .inr (.inr (some (2, 2))), .inl (2 : Int32), .inr (.inr (some (400, 0)))], _)) (b := true) (by decide +kernel) rfl rfl ?_
  refine c_call (n := 27) hW hs rfl (by decide +kernel) Z (as := [.inl (2 : Int32)]) (st := [.inr (.inr (some (2, 2))), .inl (2 : Int32), .inr (.inr (some (400, 0)))]) (mc := 10) (ms := 68) (ct2_2 hW _) ho1 ho2 cwi3_27 mi2_in rfl rfl ⟨by exact Nat.le_of_ble_eq_true rfl, by exact Nat.le_of_ble_eq_true rfl⟩ rfl (by decide +kernel) ⟨by exact Nat.le_of_ble_eq_true rfl, by exact Nat.le_of_ble_eq_true rfl⟩ ?_
  replace Z := c_Z Z hW 39
  refine c_aast Z (t := 2) (jn := 2) (zmU (j := 2) rfl (by decide)) (zmU (j := 28) rfl (by decide)) ⟨rfl, Or.inl ⟨rfl, rfl⟩⟩ (by decide) (by decide) (by decide +kernel) ?_
  refine zblq Z rfl [(.iinc 1 1, 3), (.ldc 68, 3), (.iload 1, 1), (.iconst 10, 2)] (S' := (71, [(0, .inr (.inr (some (3, 0)))), (1, .inl (3 : Int32))], [.inl (10 : Int32), .inl (3 : Int32)], _)) (b := true) (by decide +kernel) rfl rfl ?_
  refine zic_ge Z (off := 23) (tgt := 94) (by decide +kernel) (by decide) (fun h => absurd h (by decide)) (fun _ => ?_)
  refine zblq Z rfl [(.aload 0, 1)] (S' := (75, [(0, .inr (.inr (some (3, 0)))), (1, .inl (3 : Int32))], [.inr (.inr (some (3, 0)))], _)) (b := true) (by decide +kernel) rfl rfl ?_
  refine c_getR Z (idx := 13) (ss := 0) (r := (400, 0)) (zmU (j := 1) rfl (by decide)) (by decide) (by decide) rfl (by decide +kernel) rfl (by decide +kernel) ?_
  refine zblq Z rfl [(.iload 1, 1)] (S' := (79, [(0, .inr (.inr (some (3, 0)))), (1, .inl (3 : Int32))], [.inl (3 : Int32), .inr (.inr (some (400, 0)))], _)) (b := true) (by decide +kernel) rfl rfl ?_
  refine c_new (n := 37) hW hs rfl (kk := 2) (i := 3) rfl Z (by decide) lk3_11 ist_2 ini_2 ⟨by exact Nat.le_of_ble_eq_true rfl, by exact Nat.le_of_ble_eq_true rfl⟩ (by decide +kernel) ?_
  replace Z := c_Z Z hW 40
  refine zblq Z rfl [(.dup, 1), (.iload 1, 1)] (S' := (84, [(0, .inr (.inr (some (3, 0)))), (1, .inl (3 : Int32))], [.inl (3 : Int32), .inr (.inr (some (2, 3))), .inr (.inr (some (2, 3))), .inl (3 : Int32), .inr (.inr (some (400, 0)))], _)) (b := true) (by decide +kernel) rfl rfl ?_
  refine c_call (n := 38) hW hs rfl (by decide +kernel) Z (as := [.inl (3 : Int32)]) (st := [.inr (.inr (some (2, 3))), .inl (3 : Int32), .inr (.inr (some (400, 0)))]) (mc := 10) (ms := 68) (ct2_3 hW _) ho1 ho2 cwi3_27 mi2_in rfl rfl ⟨by exact Nat.le_of_ble_eq_true rfl, by exact Nat.le_of_ble_eq_true rfl⟩ rfl (by decide +kernel) ⟨by exact Nat.le_of_ble_eq_true rfl, by exact Nat.le_of_ble_eq_true rfl⟩ ?_
  replace Z := c_Z Z hW 50
  refine c_aast Z (t := 2) (jn := 3) (zmU (j := 2) rfl (by decide)) (zmU (j := 39) rfl (by decide)) ⟨rfl, Or.inl ⟨rfl, rfl⟩⟩ (by decide) (by decide) (by decide +kernel) ?_
  refine zblq Z rfl [(.iinc 1 1, 3), (.ldc 68, 3), (.iload 1, 1), (.iconst 10, 2)] (S' := (71, [(0, .inr (.inr (some (3, 0)))), (1, .inl (4 : Int32))], [.inl (10 : Int32), .inl (4 : Int32)], _)) (b := true) (by decide +kernel) rfl rfl ?_
  refine zic_ge Z (off := 23) (tgt := 94) (by decide +kernel) (by decide) (fun h => absurd h (by decide)) (fun _ => ?_)
  refine zblq Z rfl [(.aload 0, 1)] (S' := (75, [(0, .inr (.inr (some (3, 0)))), (1, .inl (4 : Int32))], [.inr (.inr (some (3, 0)))], _)) (b := true) (by decide +kernel) rfl rfl ?_
  refine c_getR Z (idx := 13) (ss := 0) (r := (400, 0)) (zmU (j := 1) rfl (by decide)) (by decide) (by decide) rfl (by decide +kernel) rfl (by decide +kernel) ?_
  refine zblq Z rfl [(.iload 1, 1)] (S' := (79, [(0, .inr (.inr (some (3, 0)))), (1, .inl (4 : Int32))], [.inl (4 : Int32), .inr (.inr (some (400, 0)))], _)) (b := true) (by decide +kernel) rfl rfl ?_
  refine c_new (n := 48) hW hs rfl (kk := 2) (i := 4) rfl Z (by decide) lk3_11 ist_2 ini_2 ⟨by exact Nat.le_of_ble_eq_true rfl, by exact Nat.le_of_ble_eq_true rfl⟩ (by decide +kernel) ?_
  replace Z := c_Z Z hW 51
  refine zblq Z rfl [(.dup, 1), (.iload 1, 1)] (S' := (84, [(0, .inr (.inr (some (3, 0)))), (1, .inl (4 : Int32))], [.inl (4 : Int32), .inr (.inr (some (2, 4))), .inr (.inr (some (2, 4))), .inl (4 : Int32), .inr (.inr (some (400, 0)))], _)) (b := true) (by decide +kernel) rfl rfl ?_
  refine c_call (n := 49) hW hs rfl (by decide +kernel) Z (as := [.inl (4 : Int32)]) (st := [.inr (.inr (some (2, 4))), .inl (4 : Int32), .inr (.inr (some (400, 0)))]) (mc := 10) (ms := 68) (ct2_4 hW _) ho1 ho2 cwi3_27 mi2_in rfl rfl ⟨by exact Nat.le_of_ble_eq_true rfl, by exact Nat.le_of_ble_eq_true rfl⟩ rfl (by decide +kernel) ⟨by exact Nat.le_of_ble_eq_true rfl, by exact Nat.le_of_ble_eq_true rfl⟩ ?_
  replace Z := c_Z Z hW 61
  refine c_aast Z (t := 2) (jn := 4) (zmU (j := 2) rfl (by decide)) (zmU (j := 50) rfl (by decide)) ⟨rfl, Or.inl ⟨rfl, rfl⟩⟩ (by decide) (by decide) (by decide +kernel) ?_
  refine zblq Z rfl [(.iinc 1 1, 3), (.ldc 68, 3), (.iload 1, 1), (.iconst 10, 2)] (S' := (71, [(0, .inr (.inr (some (3, 0)))), (1, .inl (5 : Int32))], [.inl (10 : Int32), .inl (5 : Int32)], _)) (b := true) (by decide +kernel) rfl rfl ?_
  refine zic_ge Z (off := 23) (tgt := 94) (by decide +kernel) (by decide) (fun h => absurd h (by decide)) (fun _ => ?_)
  refine zblq Z rfl [(.aload 0, 1)] (S' := (75, [(0, .inr (.inr (some (3, 0)))), (1, .inl (5 : Int32))], [.inr (.inr (some (3, 0)))], _)) (b := true) (by decide +kernel) rfl rfl ?_
  refine c_getR Z (idx := 13) (ss := 0) (r := (400, 0)) (zmU (j := 1) rfl (by decide)) (by decide) (by decide) rfl (by decide +kernel) rfl (by decide +kernel) ?_
  refine zblq Z rfl [(.iload 1, 1)] (S' := (79, [(0, .inr (.inr (some (3, 0)))), (1, .inl (5 : Int32))], [.inl (5 : Int32), .inr (.inr (some (400, 0)))], _)) (b := true) (by decide +kernel) rfl rfl ?_
  refine c_new (n := 59) hW hs rfl (kk := 2) (i := 5) rfl Z (by decide) lk3_11 ist_2 ini_2 ⟨by exact Nat.le_of_ble_eq_true rfl, by exact Nat.le_of_ble_eq_true rfl⟩ (by decide +kernel) ?_
  replace Z := c_Z Z hW 62
  refine zblq Z rfl [(.dup, 1), (.iload 1, 1)] (S' := (84, [(0, .inr (.inr (some (3, 0)))), (1, .inl (5 : Int32))], [.inl (5 : Int32), .inr (.inr (some (2, 5))), .inr (.inr (some (2, 5))), .inl (5 : Int32), .inr (.inr (some (400, 0)))], _)) (b := true) (by decide +kernel) rfl rfl ?_
  refine c_call (n := 60) hW hs rfl (by decide +kernel) Z (as := [.inl (5 : Int32)]) (st := [.inr (.inr (some (2, 5))), .inl (5 : Int32), .inr (.inr (some (400, 0)))]) (mc := 10) (ms := 68) (ct2_5 hW _) ho1 ho2 cwi3_27 mi2_in rfl rfl ⟨by exact Nat.le_of_ble_eq_true rfl, by exact Nat.le_of_ble_eq_true rfl⟩ rfl (by decide +kernel) ⟨by exact Nat.le_of_ble_eq_true rfl, by exact Nat.le_of_ble_eq_true rfl⟩ ?_
  replace Z := c_Z Z hW 72
  refine c_aast Z (t := 2) (jn := 5) (zmU (j := 2) rfl (by decide)) (zmU (j := 61) rfl (by decide)) ⟨rfl, Or.inl ⟨rfl, rfl⟩⟩ (by decide) (by decide) (by decide +kernel) ?_
  refine zblq Z rfl [(.iinc 1 1, 3), (.ldc 68, 3), (.iload 1, 1), (.iconst 10, 2)] (S' := (71, [(0, .inr (.inr (some (3, 0)))), (1, .inl (6 : Int32))], [.inl (10 : Int32), .inl (6 : Int32)], _)) (b := true) (by decide +kernel) rfl rfl ?_
  refine zic_ge Z (off := 23) (tgt := 94) (by decide +kernel) (by decide) (fun h => absurd h (by decide)) (fun _ => ?_)
  refine zblq Z rfl [(.aload 0, 1)] (S' := (75, [(0, .inr (.inr (some (3, 0)))), (1, .inl (6 : Int32))], [.inr (.inr (some (3, 0)))], _)) (b := true) (by decide +kernel) rfl rfl ?_
  refine c_getR Z (idx := 13) (ss := 0) (r := (400, 0)) (zmU (j := 1) rfl (by decide)) (by decide) (by decide) rfl (by decide +kernel) rfl (by decide +kernel) ?_
  refine zblq Z rfl [(.iload 1, 1)] (S' := (79, [(0, .inr (.inr (some (3, 0)))), (1, .inl (6 : Int32))], [.inl (6 : Int32), .inr (.inr (some (400, 0)))], _)) (b := true) (by decide +kernel) rfl rfl ?_
  refine c_new (n := 70) hW hs rfl (kk := 2) (i := 6) rfl Z (by decide) lk3_11 ist_2 ini_2 ⟨by exact Nat.le_of_ble_eq_true rfl, by exact Nat.le_of_ble_eq_true rfl⟩ (by decide +kernel) ?_
  replace Z := c_Z Z hW 73
  refine zblq Z rfl [(.dup, 1), (.iload 1, 1)] (S' := (84, [(0, .inr (.inr (some (3, 0)))), (1, .inl (6 : Int32))], [.inl (6 : Int32), .inr (.inr (some (2, 6))), .inr (.inr (some (2, 6))), .inl (6 : Int32), .inr (.inr (some (400, 0)))], _)) (b := true) (by decide +kernel) rfl rfl ?_
  refine c_call (n := 71) hW hs rfl (by decide +kernel) Z (as := [.inl (6 : Int32)]) (st := [.inr (.inr (some (2, 6))), .inl (6 : Int32), .inr (.inr (some (400, 0)))]) (mc := 10) (ms := 68) (ct2_6 hW _) ho1 ho2 cwi3_27 mi2_in rfl rfl ⟨by exact Nat.le_of_ble_eq_true rfl, by exact Nat.le_of_ble_eq_true rfl⟩ rfl (by decide +kernel) ⟨by exact Nat.le_of_ble_eq_true rfl, by exact Nat.le_of_ble_eq_true rfl⟩ ?_
  replace Z := c_Z Z hW 83
  refine c_aast Z (t := 2) (jn := 6) (zmU (j := 2) rfl (by decide)) (zmU (j := 72) rfl (by decide)) ⟨rfl, Or.inl ⟨rfl, rfl⟩⟩ (by decide) (by decide) (by decide +kernel) ?_
  refine zblq Z rfl [(.iinc 1 1, 3), (.ldc 68, 3), (.iload 1, 1), (.iconst 10, 2)] (S' := (71, [(0, .inr (.inr (some (3, 0)))), (1, .inl (7 : Int32))], [.inl (10 : Int32), .inl (7 : Int32)], _)) (b := true) (by decide +kernel) rfl rfl ?_
  refine zic_ge Z (off := 23) (tgt := 94) (by decide +kernel) (by decide) (fun h => absurd h (by decide)) (fun _ => ?_)
  refine zblq Z rfl [(.aload 0, 1)] (S' := (75, [(0, .inr (.inr (some (3, 0)))), (1, .inl (7 : Int32))], [.inr (.inr (some (3, 0)))], _)) (b := true) (by decide +kernel) rfl rfl ?_
  refine c_getR Z (idx := 13) (ss := 0) (r := (400, 0)) (zmU (j := 1) rfl (by decide)) (by decide) (by decide) rfl (by decide +kernel) rfl (by decide +kernel) ?_
  refine zblq Z rfl [(.iload 1, 1)] (S' := (79, [(0, .inr (.inr (some (3, 0)))), (1, .inl (7 : Int32))], [.inl (7 : Int32), .inr (.inr (some (400, 0)))], _)) (b := true) (by decide +kernel) rfl rfl ?_
  refine c_new (n := 81) hW hs rfl (kk := 2) (i := 7) rfl Z (by decide) lk3_11 ist_2 ini_2 ⟨by exact Nat.le_of_ble_eq_true rfl, by exact Nat.le_of_ble_eq_true rfl⟩ (by decide +kernel) ?_
  replace Z := c_Z Z hW 84
  refine zblq Z rfl [(.dup, 1), (.iload 1, 1)] (S' := (84, [(0, .inr (.inr (some (3, 0)))), (1, .inl (7 : Int32))], [.inl (7 : Int32), .inr (.inr (some (2, 7))), .inr (.inr (some (2, 7))), .inl (7 : Int32), .inr (.inr (some (400, 0)))], _)) (b := true) (by decide +kernel) rfl rfl ?_
  refine c_call (n := 82) hW hs rfl (by decide +kernel) Z (as := [.inl (7 : Int32)]) (st := [.inr (.inr (some (2, 7))), .inl (7 : Int32), .inr (.inr (some (400, 0)))]) (mc := 10) (ms := 68) (ct2_7 hW _) ho1 ho2 cwi3_27 mi2_in rfl rfl ⟨by exact Nat.le_of_ble_eq_true rfl, by exact Nat.le_of_ble_eq_true rfl⟩ rfl (by decide +kernel) ⟨by exact Nat.le_of_ble_eq_true rfl, by exact Nat.le_of_ble_eq_true rfl⟩ ?_
  replace Z := c_Z Z hW 94
  refine c_aast Z (t := 2) (jn := 7) (zmU (j := 2) rfl (by decide)) (zmU (j := 83) rfl (by decide)) ⟨rfl, Or.inl ⟨rfl, rfl⟩⟩ (by decide) (by decide) (by decide +kernel) ?_
  refine zblq Z rfl [(.iinc 1 1, 3), (.ldc 68, 3), (.iload 1, 1), (.iconst 10, 2)] (S' := (71, [(0, .inr (.inr (some (3, 0)))), (1, .inl (8 : Int32))], [.inl (10 : Int32), .inl (8 : Int32)], _)) (b := true) (by decide +kernel) rfl rfl ?_
  refine zic_ge Z (off := 23) (tgt := 94) (by decide +kernel) (by decide) (fun h => absurd h (by decide)) (fun _ => ?_)
  refine zblq Z rfl [(.aload 0, 1)] (S' := (75, [(0, .inr (.inr (some (3, 0)))), (1, .inl (8 : Int32))], [.inr (.inr (some (3, 0)))], _)) (b := true) (by decide +kernel) rfl rfl ?_
  refine c_getR Z (idx := 13) (ss := 0) (r := (400, 0)) (zmU (j := 1) rfl (by decide)) (by decide) (by decide) rfl (by decide +kernel) rfl (by decide +kernel) ?_
  refine zblq Z rfl [(.iload 1, 1)] (S' := (79, [(0, .inr (.inr (some (3, 0)))), (1, .inl (8 : Int32))], [.inl (8 : Int32), .inr (.inr (some (400, 0)))], _)) (b := true) (by decide +kernel) rfl rfl ?_
  refine c_new (n := 92) hW hs rfl (kk := 2) (i := 8) rfl Z (by decide) lk3_11 ist_2 ini_2 ⟨by exact Nat.le_of_ble_eq_true rfl, by exact Nat.le_of_ble_eq_true rfl⟩ (by decide +kernel) ?_
  replace Z := c_Z Z hW 95
  refine zblq Z rfl [(.dup, 1), (.iload 1, 1)] (S' := (84, [(0, .inr (.inr (some (3, 0)))), (1, .inl (8 : Int32))], [.inl (8 : Int32), .inr (.inr (some (2, 8))), .inr (.inr (some (2, 8))), .inl (8 : Int32), .inr (.inr (some (400, 0)))], _)) (b := true) (by decide +kernel) rfl rfl ?_
  refine c_call (n := 93) hW hs rfl (by decide +kernel) Z (as := [.inl (8 : Int32)]) (st := [.inr (.inr (some (2, 8))), .inl (8 : Int32), .inr (.inr (some (400, 0)))]) (mc := 10) (ms := 68) (ct2_8 hW _) ho1 ho2 cwi3_27 mi2_in rfl rfl ⟨by exact Nat.le_of_ble_eq_true rfl, by exact Nat.le_of_ble_eq_true rfl⟩ rfl (by decide +kernel) ⟨by exact Nat.le_of_ble_eq_true rfl, by exact Nat.le_of_ble_eq_true rfl⟩ ?_
  replace Z := c_Z Z hW 105
  refine c_aast Z (t := 2) (jn := 8) (zmU (j := 2) rfl (by decide)) (zmU (j := 94) rfl (by decide)) ⟨rfl, Or.inl ⟨rfl, rfl⟩⟩ (by decide) (by decide) (by decide +kernel) ?_
  refine zblq Z rfl [(.iinc 1 1, 3), (.ldc 68, 3), (.iload 1, 1), (.iconst 10, 2)] (S' := (71, [(0, .inr (.inr (some (3, 0)))), (1, .inl (9 : Int32))], [.inl (10 : Int32), .inl (9 : Int32)], _)) (b := true) (by decide +kernel) rfl rfl ?_
  refine zic_ge Z (off := 23) (tgt := 94) (by decide +kernel) (by decide) (fun h => absurd h (by decide)) (fun _ => ?_)
  refine zblq Z rfl [(.aload 0, 1)] (S' := (75, [(0, .inr (.inr (some (3, 0)))), (1, .inl (9 : Int32))], [.inr (.inr (some (3, 0)))], _)) (b := true) (by decide +kernel) rfl rfl ?_
  refine c_getR Z (idx := 13) (ss := 0) (r := (400, 0)) (zmU (j := 1) rfl (by decide)) (by decide) (by decide) rfl (by decide +kernel) rfl (by decide +kernel) ?_
  refine zblq Z rfl [(.iload 1, 1)] (S' := (79, [(0, .inr (.inr (some (3, 0)))), (1, .inl (9 : Int32))], [.inl (9 : Int32), .inr (.inr (some (400, 0)))], _)) (b := true) (by decide +kernel) rfl rfl ?_
  refine c_new (n := 103) hW hs rfl (kk := 2) (i := 9) rfl Z (by decide) lk3_11 ist_2 ini_2 ⟨by exact Nat.le_of_ble_eq_true rfl, by exact Nat.le_of_ble_eq_true rfl⟩ (by decide +kernel) ?_
  replace Z := c_Z Z hW 106
  refine zblq Z rfl [(.dup, 1), (.iload 1, 1)] (S' := (84, [(0, .inr (.inr (some (3, 0)))), (1, .inl (9 : Int32))], [.inl (9 : Int32), .inr (.inr (some (2, 9))), .inr (.inr (some (2, 9))), .inl (9 : Int32), .inr (.inr (some (400, 0)))], _)) (b := true) (by decide +kernel) rfl rfl ?_
  refine c_call (n := 104) hW hs rfl (by decide +kernel) Z (as := [.inl (9 : Int32)]) (st := [.inr (.inr (some (2, 9))), .inl (9 : Int32), .inr (.inr (some (400, 0)))]) (mc := 10) (ms := 68) (ct2_9 hW _) ho1 ho2 cwi3_27 mi2_in rfl rfl ⟨by exact Nat.le_of_ble_eq_true rfl, by exact Nat.le_of_ble_eq_true rfl⟩ rfl (by decide +kernel) ⟨by exact Nat.le_of_ble_eq_true rfl, by exact Nat.le_of_ble_eq_true rfl⟩ ?_
  replace Z := c_Z Z hW 116
  refine c_aast Z (t := 2) (jn := 9) (zmU (j := 2) rfl (by decide)) (zmU (j := 105) rfl (by decide)) ⟨rfl, Or.inl ⟨rfl, rfl⟩⟩ (by decide) (by decide) (by decide +kernel) ?_
  refine zblq Z rfl [(.iinc 1 1, 3), (.ldc 68, 3), (.iload 1, 1), (.iconst 10, 2)] (S' := (71, [(0, .inr (.inr (some (3, 0)))), (1, .inl (10 : Int32))], [.inl (10 : Int32), .inl (10 : Int32)], _)) (b := true) (by decide +kernel) rfl rfl ?_
  refine zic_ge Z (off := 23) (tgt := 94) (by decide +kernel) (by decide) (fun _ => ?_) (fun h => absurd (by decide) h)
  exact zret_c Z hA hE (by decide +kernel)
def mk7_0 (M : zM) : zM := zwF (zclr (zwF (zclr (zwF (zclr M 803 0) 7 0 3 (803, 0)) 804 0) 7 0 4 (804, 0)) 805 0) 7 0 5 (805, 0)
set_option maxRecDepth 100000 in
theorem ct7_0 {l : Launch} {D : va_G} {ad : zR → Nat} {ca : Nat → ClassId} {A : Nat → Prop} {base : Nat} (hW : zWh zUC base ad A) (M : zM) : zMetC l yX7_init cX7_init 1 1 3 24 12 [.inr (.inr (some (7, 0)))] (base + 119) (zGt zUC D ad ca A 119) M (zGt zUC D ad ca A 122) (mk7_0 M) := by
  refine zMetC_of (zGt_ok hW _) rfl tbK7_ok rfl rfl (by decide +kernel) (Nat.le_of_ble_eq_true rfl) (fun X _ Z hA hE => ?_)
  obtain ⟨p, l', e, R, s, m, args, below, meth, c, Q⟩ := X
  obtain ⟨hR, -, hin, hs, ho1, ho2⟩ := id hA
  subst hR
  refine zblq Z rfl [(.aload 0, 1)] (S' := (1, [(0, .inr (.inr (some (7, 0))))], [.inr (.inr (some (7, 0)))], _)) (b := true) (by decide +kernel) rfl rfl ?_
  refine z_obj Z ol7_3 ol_in ol_cd ⟨by exact Nat.le_of_ble_eq_true rfl, by exact Nat.le_of_ble_eq_true rfl⟩ (by decide +kernel) ?_
  refine zblq Z rfl [(.aload 0, 1), (.iconst 8, 2)] (S' := (7, [(0, .inr (.inr (some (7, 0))))], [.inl (8 : Int32), .inr (.inr (some (7, 0)))], _)) (b := true) (by decide +kernel) rfl rfl ?_
  refine c_newa (n := 0) hW hs rfl (kk := 803) (i := 0) rfl Z (Or.inr ⟨rfl, rfl⟩) rfl acl_1 (by decide) ⟨by exact Nat.le_of_ble_eq_true rfl, by exact Nat.le_of_ble_eq_true rfl⟩ (by decide +kernel) ?_
  replace Z := c_Z Z hW 120
  refine c_putR Z (idx := 11) (ss := 3) (zmU (j := 118) rfl (by decide)) (by decide) (by decide) rfl (by decide +kernel) (Or.inr ⟨rfl, hin, rfl⟩) (by decide +kernel) ?_
  refine zblq Z rfl [(.aload 0, 1), (.iconst 8, 2)] (S' := (15, [(0, .inr (.inr (some (7, 0))))], [.inl (8 : Int32), .inr (.inr (some (7, 0)))], _)) (b := true) (by decide +kernel) rfl rfl ?_
  refine c_newa (n := 1) hW hs rfl (kk := 804) (i := 0) rfl Z (Or.inr ⟨rfl, rfl⟩) rfl acl_1 (by decide) ⟨by exact Nat.le_of_ble_eq_true rfl, by exact Nat.le_of_ble_eq_true rfl⟩ (by decide +kernel) ?_
  replace Z := c_Z Z hW 121
  refine c_putR Z (idx := 15) (ss := 4) (zmU (j := 118) rfl (by decide)) (by decide) (by decide) rfl (by decide +kernel) (Or.inr ⟨rfl, hin, rfl⟩) (by decide +kernel) ?_
  refine zblq Z rfl [(.aload 0, 1), (.iconst 8, 2)] (S' := (23, [(0, .inr (.inr (some (7, 0))))], [.inl (8 : Int32), .inr (.inr (some (7, 0)))], _)) (b := true) (by decide +kernel) rfl rfl ?_
  refine c_newa (n := 2) hW hs rfl (kk := 805) (i := 0) rfl Z (Or.inl ⟨rfl, rfl⟩) rfl acl_0 (by decide) ⟨by exact Nat.le_of_ble_eq_true rfl, by exact Nat.le_of_ble_eq_true rfl⟩ (by decide +kernel) ?_
  replace Z := c_Z Z hW 122
  refine c_putR Z (idx := 18) (ss := 5) (zmU (j := 118) rfl (by decide)) (by decide) (by decide) rfl (by decide +kernel) (Or.inr ⟨rfl, hin, rfl⟩) (by decide +kernel) ?_
  exact zret_c Z hA hE (by decide +kernel)
def mk10_0 (M : zM) : zM := zwF (mk7_0 (zclr (zwF (zclr M 1100 0) 10 0 0 (1100, 0)) 7 0)) 10 0 4 (7, 0)
set_option maxRecDepth 100000 in
theorem ct10_0 {l : Launch} {D : va_G} {ad : zR → Nat} {ca : Nat → ClassId} {A : Nat → Prop} {base : Nat} (hW : zWh zUC base ad A) (M : zM) : zMetC l yX10_init cX10_init 1 2 5 150 32 [.inr (.inr (some (10, 0)))] (base + 117) (zGt zUC D ad ca A 117) M (zGt zUC D ad ca A 122) (mk10_0 M) := by
  refine zMetC_of (zGt_ok hW _) rfl tbK10_ok rfl rfl (by decide +kernel) (Nat.le_of_ble_eq_true rfl) (fun X _ Z hA hE => ?_)
  obtain ⟨p, l', e, R, s, m, args, below, meth, c, Q⟩ := X
  obtain ⟨hR, -, hin, hs, ho1, ho2⟩ := id hA
  subst hR
  refine zblq Z rfl [(.aload 0, 1)] (S' := (1, [(0, .inr (.inr (some (10, 0))))], [.inr (.inr (some (10, 0)))], _)) (b := true) (by decide +kernel) rfl rfl ?_
  refine z_obj Z ol10_3 ol_in ol_cd ⟨by exact Nat.le_of_ble_eq_true rfl, by exact Nat.le_of_ble_eq_true rfl⟩ (by decide +kernel) ?_
  refine zblq Z rfl [(.aload 0, 1), (.iconst 120, 2)] (S' := (7, [(0, .inr (.inr (some (10, 0))))], [.inl (120 : Int32), .inr (.inr (some (10, 0)))], _)) (b := true) (by decide +kernel) rfl rfl ?_
  refine c_newa (n := 0) hW hs rfl (kk := 1100) (i := 0) rfl Z (Or.inl ⟨rfl, rfl⟩) rfl acl_0 (by decide) ⟨by exact Nat.le_of_ble_eq_true rfl, by exact Nat.le_of_ble_eq_true rfl⟩ (by decide +kernel) ?_
  replace Z := c_Z Z hW 118
  refine c_putR Z (idx := 11) (ss := 0) (zmU (j := 116) rfl (by decide)) (by decide) (by decide) rfl (by decide +kernel) (Or.inr ⟨rfl, hin, rfl⟩) (by decide +kernel) ?_
  refine zblq Z rfl [(.aload 0, 1)] (S' := (13, [(0, .inr (.inr (some (10, 0))))], [.inr (.inr (some (10, 0)))], _)) (b := true) (by decide +kernel) rfl rfl ?_
  refine c_new (n := 1) hW hs rfl (kk := 7) (i := 0) rfl Z (by decide) lk10_15 ist_7 ini_7 ⟨by exact Nat.le_of_ble_eq_true rfl, by exact Nat.le_of_ble_eq_true rfl⟩ (by decide +kernel) ?_
  replace Z := c_Z Z hW 119
  refine zblq Z rfl [(.dup, 1)] (S' := (17, [(0, .inr (.inr (some (10, 0))))], [.inr (.inr (some (7, 0))), .inr (.inr (some (7, 0))), .inr (.inr (some (10, 0)))], _)) (b := true) (by decide +kernel) rfl rfl ?_
  refine c_call (n := 2) hW hs rfl (by decide +kernel) Z (as := []) (st := [.inr (.inr (some (7, 0))), .inr (.inr (some (10, 0)))]) (mc := 3) (ms := 24) (ct7_0 hW _) ho1 ho2 cwi10_17 mi7_in rfl rfl ⟨by exact Nat.le_of_ble_eq_true rfl, by exact Nat.le_of_ble_eq_true rfl⟩ rfl (by decide +kernel) ⟨by exact Nat.le_of_ble_eq_true rfl, by exact Nat.le_of_ble_eq_true rfl⟩ ?_
  replace Z := c_Z Z hW 122
  refine c_putR Z (idx := 18) (ss := 4) (zmU (j := 116) rfl (by decide)) (by decide) (by decide) rfl (by decide +kernel) (Or.inr ⟨rfl, hin, rfl⟩) (by decide +kernel) ?_
  exact zret_c Z hA hE (by decide +kernel)
def mk7_1 (M : zM) : zM := zwF (zclr (zwF (zclr (zwF (zclr M 803 1) 7 1 3 (803, 1)) 804 1) 7 1 4 (804, 1)) 805 1) 7 1 5 (805, 1)
set_option maxRecDepth 100000 in
theorem ct7_1 {l : Launch} {D : va_G} {ad : zR → Nat} {ca : Nat → ClassId} {A : Nat → Prop} {base : Nat} (hW : zWh zUC base ad A) (M : zM) : zMetC l yX7_init cX7_init 1 1 3 24 12 [.inr (.inr (some (7, 1)))] (base + 124) (zGt zUC D ad ca A 124) M (zGt zUC D ad ca A 127) (mk7_1 M) := by
  refine zMetC_of (zGt_ok hW _) rfl tbK7_ok rfl rfl (by decide +kernel) (Nat.le_of_ble_eq_true rfl) (fun X _ Z hA hE => ?_)
  obtain ⟨p, l', e, R, s, m, args, below, meth, c, Q⟩ := X
  obtain ⟨hR, -, hin, hs, ho1, ho2⟩ := id hA
  subst hR
  refine zblq Z rfl [(.aload 0, 1)] (S' := (1, [(0, .inr (.inr (some (7, 1))))], [.inr (.inr (some (7, 1)))], _)) (b := true) (by decide +kernel) rfl rfl ?_
  refine z_obj Z ol7_3 ol_in ol_cd ⟨by exact Nat.le_of_ble_eq_true rfl, by exact Nat.le_of_ble_eq_true rfl⟩ (by decide +kernel) ?_
  refine zblq Z rfl [(.aload 0, 1), (.iconst 8, 2)] (S' := (7, [(0, .inr (.inr (some (7, 1))))], [.inl (8 : Int32), .inr (.inr (some (7, 1)))], _)) (b := true) (by decide +kernel) rfl rfl ?_
  refine c_newa (n := 0) hW hs rfl (kk := 803) (i := 1) rfl Z (Or.inr ⟨rfl, rfl⟩) rfl acl_1 (by decide) ⟨by exact Nat.le_of_ble_eq_true rfl, by exact Nat.le_of_ble_eq_true rfl⟩ (by decide +kernel) ?_
  replace Z := c_Z Z hW 125
  refine c_putR Z (idx := 11) (ss := 3) (zmU (j := 123) rfl (by decide)) (by decide) (by decide) rfl (by decide +kernel) (Or.inr ⟨rfl, hin, rfl⟩) (by decide +kernel) ?_
  refine zblq Z rfl [(.aload 0, 1), (.iconst 8, 2)] (S' := (15, [(0, .inr (.inr (some (7, 1))))], [.inl (8 : Int32), .inr (.inr (some (7, 1)))], _)) (b := true) (by decide +kernel) rfl rfl ?_
  refine c_newa (n := 1) hW hs rfl (kk := 804) (i := 1) rfl Z (Or.inr ⟨rfl, rfl⟩) rfl acl_1 (by decide) ⟨by exact Nat.le_of_ble_eq_true rfl, by exact Nat.le_of_ble_eq_true rfl⟩ (by decide +kernel) ?_
  replace Z := c_Z Z hW 126
  refine c_putR Z (idx := 15) (ss := 4) (zmU (j := 123) rfl (by decide)) (by decide) (by decide) rfl (by decide +kernel) (Or.inr ⟨rfl, hin, rfl⟩) (by decide +kernel) ?_
  refine zblq Z rfl [(.aload 0, 1), (.iconst 8, 2)] (S' := (23, [(0, .inr (.inr (some (7, 1))))], [.inl (8 : Int32), .inr (.inr (some (7, 1)))], _)) (b := true) (by decide +kernel) rfl rfl ?_
  refine c_newa (n := 2) hW hs rfl (kk := 805) (i := 1) rfl Z (Or.inl ⟨rfl, rfl⟩) rfl acl_0 (by decide) ⟨by exact Nat.le_of_ble_eq_true rfl, by exact Nat.le_of_ble_eq_true rfl⟩ (by decide +kernel) ?_
  replace Z := c_Z Z hW 127
  refine c_putR Z (idx := 18) (ss := 5) (zmU (j := 123) rfl (by decide)) (by decide) (by decide) rfl (by decide +kernel) (Or.inr ⟨rfl, hin, rfl⟩) (by decide +kernel) ?_
  exact zret_c Z hA hE (by decide +kernel)
def mk9_50 (M : zM) : zM := M
set_option maxRecDepth 100000 in
theorem ct9_50 {l : Launch} {D : va_G} {ad : zR → Nat} {ca : Nat → ClassId} {A : Nat → Prop} {base : Nat} (hW : zWh zUC base ad A) (M : zM) : zMetC l yX9_init cX9_init 1 1 0 0 12 [.inr (.inr (some (9, 50)))] (base + 128) (zGt zUC D ad ca A 128) M (zGt zUC D ad ca A 128) (mk9_50 M) := by
  refine zMetC_of (zGt_ok hW _) rfl tbK9_ok rfl rfl (by decide +kernel) (Nat.le_of_ble_eq_true rfl) (fun X _ Z hA hE => ?_)
  obtain ⟨p, l', e, R, s, m, args, below, meth, c, Q⟩ := X
  obtain ⟨hR, -, hin, hs, ho1, ho2⟩ := id hA
  subst hR
  refine zblq Z rfl [(.aload 0, 1)] (S' := (1, [(0, .inr (.inr (some (9, 50))))], [.inr (.inr (some (9, 50)))], _)) (b := true) (by decide +kernel) rfl rfl ?_
  refine z_obj Z ol9_1 ol_in ol_cd ⟨by exact Nat.le_of_ble_eq_true rfl, by exact Nat.le_of_ble_eq_true rfl⟩ (by decide +kernel) ?_
  exact zret_c Z hA hE (by decide +kernel)
def mk0_0 (M : zM) : zM := zwF (zwF (zclr (zwF (zclr (zwF (mk9_50 (zclr (zwF (mk7_1 (zclr M 7 1)) 0 0 1 (7, 1)) 9 50)) 0 0 2 (9, 50)) 103 0) 0 0 3 (103, 0)) 104 0) 0 0 4 (104, 0)) 0 0 0 (3, 0)
set_option maxRecDepth 100000 in
theorem ct0_0 {l : Launch} {D : va_G} {ad : zR → Nat} {ca : Nat → ClassId} {A : Nat → Prop} {base : Nat} (hW : zWh zUC base ad A) (M : zM) : zMetC l yX0_init cX0_init 2 2 7 55 32 [.inr (.inr (some (0, 0))), .inr (.inr (some (3, 0)))] (base + 123) (zGt zUC D ad ca A 123) M (zGt zUC D ad ca A 130) (mk0_0 M) := by
  refine zMetC_of (zGt_ok hW _) rfl tbK0_ok rfl rfl (by decide +kernel) (Nat.le_of_ble_eq_true rfl) (fun X _ Z hA hE => ?_)
  obtain ⟨p, l', e, R, s, m, args, below, meth, c, Q⟩ := X
  obtain ⟨hR, -, hin, hs, ho1, ho2⟩ := id hA
  subst hR
  refine zblq Z rfl [(.aload 0, 1)] (S' := (1, [(0, .inr (.inr (some (0, 0)))), (1, .inr (.inr (some (3, 0))))], [.inr (.inr (some (0, 0)))], _)) (b := true) (by decide +kernel) rfl rfl ?_
  refine z_obj Z ol0_3 ol_in ol_cd ⟨by exact Nat.le_of_ble_eq_true rfl, by exact Nat.le_of_ble_eq_true rfl⟩ (by decide +kernel) ?_
  refine zblq Z rfl [(.aload 0, 1)] (S' := (5, [(0, .inr (.inr (some (0, 0)))), (1, .inr (.inr (some (3, 0))))], [.inr (.inr (some (0, 0)))], _)) (b := true) (by decide +kernel) rfl rfl ?_
  refine c_new (n := 0) hW hs rfl (kk := 7) (i := 1) rfl Z (by decide) lk0_9 ist_7 ini_7 ⟨by exact Nat.le_of_ble_eq_true rfl, by exact Nat.le_of_ble_eq_true rfl⟩ (by decide +kernel) ?_
  replace Z := c_Z Z hW 124
  refine zblq Z rfl [(.dup, 1)] (S' := (9, [(0, .inr (.inr (some (0, 0)))), (1, .inr (.inr (some (3, 0))))], [.inr (.inr (some (7, 1))), .inr (.inr (some (7, 1))), .inr (.inr (some (0, 0)))], _)) (b := true) (by decide +kernel) rfl rfl ?_
  refine c_call (n := 1) hW hs rfl (by decide +kernel) Z (as := []) (st := [.inr (.inr (some (7, 1))), .inr (.inr (some (0, 0)))]) (mc := 3) (ms := 24) (ct7_1 hW _) ho1 ho2 cwi0_11 mi7_in rfl rfl ⟨by exact Nat.le_of_ble_eq_true rfl, by exact Nat.le_of_ble_eq_true rfl⟩ rfl (by decide +kernel) ⟨by exact Nat.le_of_ble_eq_true rfl, by exact Nat.le_of_ble_eq_true rfl⟩ ?_
  replace Z := c_Z Z hW 127
  refine c_putR Z (idx := 12) (ss := 1) (zmU (j := 122) rfl (by decide)) (by decide) (by decide) rfl (by decide +kernel) (Or.inr ⟨rfl, hin, rfl⟩) (by decide +kernel) ?_
  refine zblq Z rfl [(.aload 0, 1)] (S' := (16, [(0, .inr (.inr (some (0, 0)))), (1, .inr (.inr (some (3, 0))))], [.inr (.inr (some (0, 0)))], _)) (b := true) (by decide +kernel) rfl rfl ?_
  refine c_new (n := 4) hW hs rfl (kk := 9) (i := 50) rfl Z (by decide) lk0_18 ist_9 ini_9 ⟨by exact Nat.le_of_ble_eq_true rfl, by exact Nat.le_of_ble_eq_true rfl⟩ (by decide +kernel) ?_
  replace Z := c_Z Z hW 128
  refine zblq Z rfl [(.dup, 1)] (S' := (20, [(0, .inr (.inr (some (0, 0)))), (1, .inr (.inr (some (3, 0))))], [.inr (.inr (some (9, 50))), .inr (.inr (some (9, 50))), .inr (.inr (some (0, 0)))], _)) (b := true) (by decide +kernel) rfl rfl ?_
  refine c_call (n := 5) hW hs rfl (by decide +kernel) Z (as := []) (st := [.inr (.inr (some (9, 50))), .inr (.inr (some (0, 0)))]) (mc := 0) (ms := 0) (ct9_50 hW _) ho1 ho2 cwi0_20 mi9_in rfl rfl ⟨by exact Nat.le_of_ble_eq_true rfl, by exact Nat.le_of_ble_eq_true rfl⟩ rfl (by decide +kernel) ⟨by exact Nat.le_of_ble_eq_true rfl, by exact Nat.le_of_ble_eq_true rfl⟩ ?_
  replace Z := c_Z Z hW 128
  refine c_putR Z (idx := 21) (ss := 2) (zmU (j := 122) rfl (by decide)) (by decide) (by decide) rfl (by decide +kernel) (Or.inr ⟨rfl, hin, rfl⟩) (by decide +kernel) ?_
  refine zblq Z rfl [(.aload 0, 1), (.iconst 8, 2)] (S' := (29, [(0, .inr (.inr (some (0, 0)))), (1, .inr (.inr (some (3, 0))))], [.inl (8 : Int32), .inr (.inr (some (0, 0)))], _)) (b := true) (by decide +kernel) rfl rfl ?_
  refine c_newa (n := 5) hW hs rfl (kk := 103) (i := 0) rfl Z (Or.inl ⟨rfl, rfl⟩) rfl acl_0 (by decide) ⟨by exact Nat.le_of_ble_eq_true rfl, by exact Nat.le_of_ble_eq_true rfl⟩ (by decide +kernel) ?_
  replace Z := c_Z Z hW 129
  refine c_putR Z (idx := 25) (ss := 3) (zmU (j := 122) rfl (by decide)) (by decide) (by decide) rfl (by decide +kernel) (Or.inr ⟨rfl, hin, rfl⟩) (by decide +kernel) ?_
  refine zblq Z rfl [(.aload 0, 1), (.iconst 12, 2)] (S' := (37, [(0, .inr (.inr (some (0, 0)))), (1, .inr (.inr (some (3, 0))))], [.inl (12 : Int32), .inr (.inr (some (0, 0)))], _)) (b := true) (by decide +kernel) rfl rfl ?_
  refine c_newa (n := 6) hW hs rfl (kk := 104) (i := 0) rfl Z (Or.inl ⟨rfl, rfl⟩) rfl acl_0 (by decide) ⟨by exact Nat.le_of_ble_eq_true rfl, by exact Nat.le_of_ble_eq_true rfl⟩ (by decide +kernel) ?_
  replace Z := c_Z Z hW 130
  refine c_putR Z (idx := 29) (ss := 4) (zmU (j := 122) rfl (by decide)) (by decide) (by decide) rfl (by decide +kernel) (Or.inr ⟨rfl, hin, rfl⟩) (by decide +kernel) ?_
  refine zblq Z rfl [(.aload 0, 1), (.aload 1, 1)] (S' := (44, [(0, .inr (.inr (some (0, 0)))), (1, .inr (.inr (some (3, 0))))], [.inr (.inr (some (3, 0))), .inr (.inr (some (0, 0)))], _)) (b := true) (by decide +kernel) rfl rfl ?_
  refine c_putR Z (idx := 32) (ss := 0) (zmU (j := 122) rfl (by decide)) (by decide) (by decide) rfl (by decide +kernel) (Or.inr ⟨rfl, hin, rfl⟩) (by decide +kernel) ?_
  exact zret_c Z hA hE (by decide +kernel)
def mk5_0 (M : zM) : zM := zwF (zwF (zwF (zclr (zwF (zclr (zwF (zclr (zwF (zclr (zwF (zclr (zwF (zclr M 602 0) 5 0 2 (602, 0)) 603 0) 5 0 3 (603, 0)) 604 0) 5 0 4 (604, 0)) 605 0) 5 0 5 (605, 0)) 606 0) 5 0 6 (606, 0)) 607 0) 5 0 7 (607, 0)) 5 0 0 (3, 0)) 5 0 1 (7, 1)
set_option maxRecDepth 100000 in
theorem ct5_0 {l : Launch} {D : va_G} {ad : zR → Nat} {ca : Nat → ClassId} {A : Nat → Prop} {base : Nat} (hW : zWh zUC base ad A) (M : zM) : zMetC l yX5_init cX5_init 3 1 6 150 12 [.inr (.inr (some (5, 0))), .inr (.inr (some (3, 0))), .inr (.inr (some (7, 1)))] (base + 131) (zGt zUC D ad ca A 131) M (zGt zUC D ad ca A 137) (mk5_0 M) := by
  refine zMetC_of (zGt_ok hW _) rfl tbK5_ok rfl rfl (by decide +kernel) (Nat.le_of_ble_eq_true rfl) (fun X _ Z hA hE => ?_)
  obtain ⟨p, l', e, R, s, m, args, below, meth, c, Q⟩ := X
  obtain ⟨hR, -, hin, hs, ho1, ho2⟩ := id hA
  subst hR
  refine zblq Z rfl [(.aload 0, 1)] (S' := (1, [(0, .inr (.inr (some (5, 0)))), (1, .inr (.inr (some (3, 0)))), (2, .inr (.inr (some (7, 1))))], [.inr (.inr (some (5, 0)))], _)) (b := true) (by decide +kernel) rfl rfl ?_
  refine z_obj Z ol5_3 ol_in ol_cd ⟨by exact Nat.le_of_ble_eq_true rfl, by exact Nat.le_of_ble_eq_true rfl⟩ (by decide +kernel) ?_
  refine zblq Z rfl [(.aload 0, 1), (.iconst 100, 2)] (S' := (7, [(0, .inr (.inr (some (5, 0)))), (1, .inr (.inr (some (3, 0)))), (2, .inr (.inr (some (7, 1))))], [.inl (100 : Int32), .inr (.inr (some (5, 0)))], _)) (b := true) (by decide +kernel) rfl rfl ?_
  refine c_newa (n := 0) hW hs rfl (kk := 602) (i := 0) rfl Z (Or.inl ⟨rfl, rfl⟩) rfl acl_0 (by decide) ⟨by exact Nat.le_of_ble_eq_true rfl, by exact Nat.le_of_ble_eq_true rfl⟩ (by decide +kernel) ?_
  replace Z := c_Z Z hW 132
  refine c_putR Z (idx := 11) (ss := 2) (zmU (j := 130) rfl (by decide)) (by decide) (by decide) rfl (by decide +kernel) (Or.inr ⟨rfl, hin, rfl⟩) (by decide +kernel) ?_
  refine zblq Z rfl [(.aload 0, 1), (.iconst 10, 2)] (S' := (15, [(0, .inr (.inr (some (5, 0)))), (1, .inr (.inr (some (3, 0)))), (2, .inr (.inr (some (7, 1))))], [.inl (10 : Int32), .inr (.inr (some (5, 0)))], _)) (b := true) (by decide +kernel) rfl rfl ?_
  refine c_newa (n := 1) hW hs rfl (kk := 603) (i := 0) rfl Z (Or.inl ⟨rfl, rfl⟩) rfl acl_0 (by decide) ⟨by exact Nat.le_of_ble_eq_true rfl, by exact Nat.le_of_ble_eq_true rfl⟩ (by decide +kernel) ?_
  replace Z := c_Z Z hW 133
  refine c_putR Z (idx := 17) (ss := 3) (zmU (j := 130) rfl (by decide)) (by decide) (by decide) rfl (by decide +kernel) (Or.inr ⟨rfl, hin, rfl⟩) (by decide +kernel) ?_
  refine zblq Z rfl [(.aload 0, 1), (.iconst 10, 2)] (S' := (23, [(0, .inr (.inr (some (5, 0)))), (1, .inr (.inr (some (3, 0)))), (2, .inr (.inr (some (7, 1))))], [.inl (10 : Int32), .inr (.inr (some (5, 0)))], _)) (b := true) (by decide +kernel) rfl rfl ?_
  refine c_newa (n := 2) hW hs rfl (kk := 604) (i := 0) rfl Z (Or.inl ⟨rfl, rfl⟩) rfl acl_0 (by decide) ⟨by exact Nat.le_of_ble_eq_true rfl, by exact Nat.le_of_ble_eq_true rfl⟩ (by decide +kernel) ?_
  replace Z := c_Z Z hW 134
  refine c_putR Z (idx := 20) (ss := 4) (zmU (j := 130) rfl (by decide)) (by decide) (by decide) rfl (by decide +kernel) (Or.inr ⟨rfl, hin, rfl⟩) (by decide +kernel) ?_
  refine zblq Z rfl [(.aload 0, 1), (.iconst 10, 2)] (S' := (31, [(0, .inr (.inr (some (5, 0)))), (1, .inr (.inr (some (3, 0)))), (2, .inr (.inr (some (7, 1))))], [.inl (10 : Int32), .inr (.inr (some (5, 0)))], _)) (b := true) (by decide +kernel) rfl rfl ?_
  refine c_newa (n := 3) hW hs rfl (kk := 605) (i := 0) rfl Z (Or.inl ⟨rfl, rfl⟩) rfl acl_0 (by decide) ⟨by exact Nat.le_of_ble_eq_true rfl, by exact Nat.le_of_ble_eq_true rfl⟩ (by decide +kernel) ?_
  replace Z := c_Z Z hW 135
  refine c_putR Z (idx := 23) (ss := 5) (zmU (j := 130) rfl (by decide)) (by decide) (by decide) rfl (by decide +kernel) (Or.inr ⟨rfl, hin, rfl⟩) (by decide +kernel) ?_
  refine zblq Z rfl [(.aload 0, 1), (.iconst 10, 2)] (S' := (39, [(0, .inr (.inr (some (5, 0)))), (1, .inr (.inr (some (3, 0)))), (2, .inr (.inr (some (7, 1))))], [.inl (10 : Int32), .inr (.inr (some (5, 0)))], _)) (b := true) (by decide +kernel) rfl rfl ?_
  refine c_newa (n := 4) hW hs rfl (kk := 606) (i := 0) rfl Z (Or.inl ⟨rfl, rfl⟩) rfl acl_0 (by decide) ⟨by exact Nat.le_of_ble_eq_true rfl, by exact Nat.le_of_ble_eq_true rfl⟩ (by decide +kernel) ?_
  replace Z := c_Z Z hW 136
  refine c_putR Z (idx := 26) (ss := 6) (zmU (j := 130) rfl (by decide)) (by decide) (by decide) rfl (by decide +kernel) (Or.inr ⟨rfl, hin, rfl⟩) (by decide +kernel) ?_
  refine zblq Z rfl [(.aload 0, 1), (.iconst 10, 2)] (S' := (47, [(0, .inr (.inr (some (5, 0)))), (1, .inr (.inr (some (3, 0)))), (2, .inr (.inr (some (7, 1))))], [.inl (10 : Int32), .inr (.inr (some (5, 0)))], _)) (b := true) (by decide +kernel) rfl rfl ?_
  refine c_newa (n := 5) hW hs rfl (kk := 607) (i := 0) rfl Z (Or.inl ⟨rfl, rfl⟩) rfl acl_0 (by decide) ⟨by exact Nat.le_of_ble_eq_true rfl, by exact Nat.le_of_ble_eq_true rfl⟩ (by decide +kernel) ?_
  replace Z := c_Z Z hW 137
  refine c_putR Z (idx := 29) (ss := 7) (zmU (j := 130) rfl (by decide)) (by decide) (by decide) rfl (by decide +kernel) (Or.inr ⟨rfl, hin, rfl⟩) (by decide +kernel) ?_
  refine zblq Z rfl [(.aload 0, 1), (.aload 1, 1)] (S' := (54, [(0, .inr (.inr (some (5, 0)))), (1, .inr (.inr (some (3, 0)))), (2, .inr (.inr (some (7, 1))))], [.inr (.inr (some (3, 0))), .inr (.inr (some (5, 0)))], _)) (b := true) (by decide +kernel) rfl rfl ?_
  refine c_putR Z (idx := 32) (ss := 0) (zmU (j := 130) rfl (by decide)) (by decide) (by decide) rfl (by decide +kernel) (Or.inr ⟨rfl, hin, rfl⟩) (by decide +kernel) ?_
  refine zblq Z rfl [(.aload 0, 1), (.aload 2, 1)] (S' := (59, [(0, .inr (.inr (some (5, 0)))), (1, .inr (.inr (some (3, 0)))), (2, .inr (.inr (some (7, 1))))], [.inr (.inr (some (7, 1))), .inr (.inr (some (5, 0)))], _)) (b := true) (by decide +kernel) rfl rfl ?_
  refine c_putR Z (idx := 36) (ss := 1) (zmU (j := 130) rfl (by decide)) (by decide) (by decide) rfl (by decide +kernel) (Or.inr ⟨rfl, hin, rfl⟩) (by decide +kernel) ?_
  exact zret_c Z hA hE (by decide +kernel)
def mk1_0 (M : zM) : zM := zwF (zwF (zclr (zwF (zclr (zwF (zclr (zwF (zclr (zwF (zclr (zwF (zclr M 201 0) 1 0 1 (201, 0)) 202 0) 1 0 2 (202, 0)) 203 0) 1 0 3 (203, 0)) 204 0) 1 0 4 (204, 0)) 205 0) 1 0 5 (205, 0)) 207 0) 1 0 7 (207, 0)) 1 0 0 (3, 0)
set_option maxRecDepth 100000 in
theorem ct1_0 {l : Launch} {D : va_G} {ad : zR → Nat} {ca : Nat → ClassId} {A : Nat → Prop} {base : Nat} (hW : zWh zUC base ad A) (M : zM) : zMetC l yX1_init cX1_init 2 1 6 200 12 [.inr (.inr (some (1, 0))), .inr (.inr (some (3, 0)))] (base + 138) (zGt zUC D ad ca A 138) M (zGt zUC D ad ca A 144) (mk1_0 M) := by
  refine zMetC_of (zGt_ok hW _) rfl tbK1_ok rfl rfl (by decide +kernel) (Nat.le_of_ble_eq_true rfl) (fun X _ Z hA hE => ?_)
  obtain ⟨p, l', e, R, s, m, args, below, meth, c, Q⟩ := X
  obtain ⟨hR, -, hin, hs, ho1, ho2⟩ := id hA
  subst hR
  refine zblq Z rfl [(.aload 0, 1)] (S' := (1, [(0, .inr (.inr (some (1, 0)))), (1, .inr (.inr (some (3, 0))))], [.inr (.inr (some (1, 0)))], _)) (b := true) (by decide +kernel) rfl rfl ?_
  refine z_obj Z ol1_3 ol_in ol_cd ⟨by exact Nat.le_of_ble_eq_true rfl, by exact Nat.le_of_ble_eq_true rfl⟩ (by decide +kernel) ?_
  refine zblq Z rfl [(.aload 0, 1), (.iconst 20, 2)] (S' := (7, [(0, .inr (.inr (some (1, 0)))), (1, .inr (.inr (some (3, 0))))], [.inl (20 : Int32), .inr (.inr (some (1, 0)))], _)) (b := true) (by decide +kernel) rfl rfl ?_
  refine c_newa (n := 0) hW hs rfl (kk := 201) (i := 0) rfl Z (Or.inl ⟨rfl, rfl⟩) rfl acl_0 (by decide) ⟨by exact Nat.le_of_ble_eq_true rfl, by exact Nat.le_of_ble_eq_true rfl⟩ (by decide +kernel) ?_
  replace Z := c_Z Z hW 139
  refine c_putR Z (idx := 11) (ss := 1) (zmU (j := 137) rfl (by decide)) (by decide) (by decide) rfl (by decide +kernel) (Or.inr ⟨rfl, hin, rfl⟩) (by decide +kernel) ?_
  refine zblq Z rfl [(.aload 0, 1), (.iconst 20, 2)] (S' := (15, [(0, .inr (.inr (some (1, 0)))), (1, .inr (.inr (some (3, 0))))], [.inl (20 : Int32), .inr (.inr (some (1, 0)))], _)) (b := true) (by decide +kernel) rfl rfl ?_
  refine c_newa (n := 1) hW hs rfl (kk := 202) (i := 0) rfl Z (Or.inl ⟨rfl, rfl⟩) rfl acl_0 (by decide) ⟨by exact Nat.le_of_ble_eq_true rfl, by exact Nat.le_of_ble_eq_true rfl⟩ (by decide +kernel) ?_
  replace Z := c_Z Z hW 140
  refine c_putR Z (idx := 15) (ss := 2) (zmU (j := 137) rfl (by decide)) (by decide) (by decide) rfl (by decide +kernel) (Or.inr ⟨rfl, hin, rfl⟩) (by decide +kernel) ?_
  refine zblq Z rfl [(.aload 0, 1), (.iconst 20, 2)] (S' := (23, [(0, .inr (.inr (some (1, 0)))), (1, .inr (.inr (some (3, 0))))], [.inl (20 : Int32), .inr (.inr (some (1, 0)))], _)) (b := true) (by decide +kernel) rfl rfl ?_
  refine c_newa (n := 2) hW hs rfl (kk := 203) (i := 0) rfl Z (Or.inl ⟨rfl, rfl⟩) rfl acl_0 (by decide) ⟨by exact Nat.le_of_ble_eq_true rfl, by exact Nat.le_of_ble_eq_true rfl⟩ (by decide +kernel) ?_
  replace Z := c_Z Z hW 141
  refine c_putR Z (idx := 18) (ss := 3) (zmU (j := 137) rfl (by decide)) (by decide) (by decide) rfl (by decide +kernel) (Or.inr ⟨rfl, hin, rfl⟩) (by decide +kernel) ?_
  refine zblq Z rfl [(.aload 0, 1), (.iconst 20, 2)] (S' := (31, [(0, .inr (.inr (some (1, 0)))), (1, .inr (.inr (some (3, 0))))], [.inl (20 : Int32), .inr (.inr (some (1, 0)))], _)) (b := true) (by decide +kernel) rfl rfl ?_
  refine c_newa (n := 3) hW hs rfl (kk := 204) (i := 0) rfl Z (Or.inl ⟨rfl, rfl⟩) rfl acl_0 (by decide) ⟨by exact Nat.le_of_ble_eq_true rfl, by exact Nat.le_of_ble_eq_true rfl⟩ (by decide +kernel) ?_
  replace Z := c_Z Z hW 142
  refine c_putR Z (idx := 21) (ss := 4) (zmU (j := 137) rfl (by decide)) (by decide) (by decide) rfl (by decide +kernel) (Or.inr ⟨rfl, hin, rfl⟩) (by decide +kernel) ?_
  refine zblq Z rfl [(.aload 0, 1), (.iconst 20, 2)] (S' := (39, [(0, .inr (.inr (some (1, 0)))), (1, .inr (.inr (some (3, 0))))], [.inl (20 : Int32), .inr (.inr (some (1, 0)))], _)) (b := true) (by decide +kernel) rfl rfl ?_
  refine c_newa (n := 4) hW hs rfl (kk := 205) (i := 0) rfl Z (Or.inl ⟨rfl, rfl⟩) rfl acl_0 (by decide) ⟨by exact Nat.le_of_ble_eq_true rfl, by exact Nat.le_of_ble_eq_true rfl⟩ (by decide +kernel) ?_
  replace Z := c_Z Z hW 143
  refine c_putR Z (idx := 24) (ss := 5) (zmU (j := 137) rfl (by decide)) (by decide) (by decide) rfl (by decide +kernel) (Or.inr ⟨rfl, hin, rfl⟩) (by decide +kernel) ?_
  refine zblq Z rfl [(.aload 0, 1), (.iconst 100, 2)] (S' := (47, [(0, .inr (.inr (some (1, 0)))), (1, .inr (.inr (some (3, 0))))], [.inl (100 : Int32), .inr (.inr (some (1, 0)))], _)) (b := true) (by decide +kernel) rfl rfl ?_
  refine c_newa (n := 5) hW hs rfl (kk := 207) (i := 0) rfl Z (Or.inl ⟨rfl, rfl⟩) rfl acl_0 (by decide) ⟨by exact Nat.le_of_ble_eq_true rfl, by exact Nat.le_of_ble_eq_true rfl⟩ (by decide +kernel) ?_
  replace Z := c_Z Z hW 144
  refine c_putR Z (idx := 29) (ss := 7) (zmU (j := 137) rfl (by decide)) (by decide) (by decide) rfl (by decide +kernel) (Or.inr ⟨rfl, hin, rfl⟩) (by decide +kernel) ?_
  refine zblq Z rfl [(.aload 0, 1), (.aload 1, 1)] (S' := (54, [(0, .inr (.inr (some (1, 0)))), (1, .inr (.inr (some (3, 0))))], [.inr (.inr (some (3, 0))), .inr (.inr (some (1, 0)))], _)) (b := true) (by decide +kernel) rfl rfl ?_
  refine c_putR Z (idx := 32) (ss := 0) (zmU (j := 137) rfl (by decide)) (by decide) (by decide) rfl (by decide +kernel) (Or.inr ⟨rfl, hin, rfl⟩) (by decide +kernel) ?_
  exact zret_c Z hA hE (by decide +kernel)
def mk6_0 (M : zM) : zM := zwF (zwF (zclr M 704 0) 6 0 4 (704, 0)) 6 0 0 (3, 0)
set_option maxRecDepth 100000 in
theorem ct6_0 {l : Launch} {D : va_G} {ad : zR → Nat} {ca : Nat → ClassId} {A : Nat → Prop} {base : Nat} (hW : zWh zUC base ad A) (M : zM) : zMetC l yX6_init cX6_init 2 1 1 10 12 [.inr (.inr (some (6, 0))), .inr (.inr (some (3, 0)))] (base + 145) (zGt zUC D ad ca A 145) M (zGt zUC D ad ca A 146) (mk6_0 M) := by
  refine zMetC_of (zGt_ok hW _) rfl tbK6_ok rfl rfl (by decide +kernel) (Nat.le_of_ble_eq_true rfl) (fun X _ Z hA hE => ?_)
  obtain ⟨p, l', e, R, s, m, args, below, meth, c, Q⟩ := X
  obtain ⟨hR, -, hin, hs, ho1, ho2⟩ := id hA
  subst hR
  refine zblq Z rfl [(.aload 0, 1)] (S' := (1, [(0, .inr (.inr (some (6, 0)))), (1, .inr (.inr (some (3, 0))))], [.inr (.inr (some (6, 0)))], _)) (b := true) (by decide +kernel) rfl rfl ?_
  refine z_obj Z ol6_1 ol_in ol_cd ⟨by exact Nat.le_of_ble_eq_true rfl, by exact Nat.le_of_ble_eq_true rfl⟩ (by decide +kernel) ?_
  refine zblq Z rfl [(.aload 0, 1), (.iconst 10, 2)] (S' := (7, [(0, .inr (.inr (some (6, 0)))), (1, .inr (.inr (some (3, 0))))], [.inl (10 : Int32), .inr (.inr (some (6, 0)))], _)) (b := true) (by decide +kernel) rfl rfl ?_
  refine c_newa (n := 0) hW hs rfl (kk := 704) (i := 0) rfl Z (Or.inl ⟨rfl, rfl⟩) rfl acl_0 (by decide) ⟨by exact Nat.le_of_ble_eq_true rfl, by exact Nat.le_of_ble_eq_true rfl⟩ (by decide +kernel) ?_
  replace Z := c_Z Z hW 146
  refine c_putR Z (idx := 9) (ss := 4) (zmU (j := 144) rfl (by decide)) (by decide) (by decide) rfl (by decide +kernel) (Or.inr ⟨rfl, hin, rfl⟩) (by decide +kernel) ?_
  refine zblq Z rfl [(.aload 0, 1), (.aload 1, 1)] (S' := (14, [(0, .inr (.inr (some (6, 0)))), (1, .inr (.inr (some (3, 0))))], [.inr (.inr (some (3, 0))), .inr (.inr (some (6, 0)))], _)) (b := true) (by decide +kernel) rfl rfl ?_
  refine c_putR Z (idx := 15) (ss := 0) (zmU (j := 144) rfl (by decide)) (by decide) (by decide) rfl (by decide +kernel) (Or.inr ⟨rfl, hin, rfl⟩) (by decide +kernel) ?_
  exact zret_c Z hA hE (by decide +kernel)
def mk4_0 (M : zM) : zM := zfl (zwF (zwF (zclr (zwF (zclr (zwF (zclr (zwF (zclr (zwF (zclr (zwF (zclr (zwF (zclr (zwF (zclr (zwF (zclr (zwF (zclr (zwI M 4 0 1 (4 : Int32)) 503 0) 4 0 3 (503, 0)) 504 0) 4 0 4 (504, 0)) 505 0) 4 0 5 (505, 0)) 506 0) 4 0 6 (506, 0)) 507 0) 4 0 7 (507, 0)) 508 0) 4 0 8 (508, 0)) 508 1) 4 0 9 (508, 1)) 510 0) 4 0 10 (510, 0)) 511 0) 4 0 11 (511, 0)) 512 0) 4 0 12 (512, 0)) 4 0 0 (3, 0)) 504 0 (zak 504).2 (2 : Int32)
set_option maxRecDepth 100000 in
theorem ct4_0 {l : Launch} {D : va_G} {ad : zR → Nat} {ca : Nat → ClassId} {A : Nat → Prop} {base : Nat} (hW : zWh zUC base ad A) (M : zM) : zMetC l yX4_init cX4_init 2 1 10 9673 23 [.inr (.inr (some (4, 0))), .inr (.inr (some (3, 0)))] (base + 147) (zGt zUC D ad ca A 147) M (zGt zUC D ad ca A 157) (mk4_0 M) := by
  refine zMetC_of (zGt_ok hW _) rfl tbK4_ok rfl rfl (by decide +kernel) (Nat.le_of_ble_eq_true rfl) (fun X _ Z hA hE => ?_)
  obtain ⟨p, l', e, R, s, m, args, below, meth, c, Q⟩ := X
  obtain ⟨hR, -, hin, hs, ho1, ho2⟩ := id hA
  subst hR
  refine zblq Z rfl [(.aload 0, 1)] (S' := (1, [(0, .inr (.inr (some (4, 0)))), (1, .inr (.inr (some (3, 0))))], [.inr (.inr (some (4, 0)))], _)) (b := true) (by decide +kernel) rfl rfl ?_
  refine z_obj Z ol4_3 ol_in ol_cd ⟨by exact Nat.le_of_ble_eq_true rfl, by exact Nat.le_of_ble_eq_true rfl⟩ (by decide +kernel) ?_
  refine zblq Z rfl [(.aload 0, 1), (.iconst 4, 1)] (S' := (6, [(0, .inr (.inr (some (4, 0)))), (1, .inr (.inr (some (3, 0))))], [.inl (4 : Int32), .inr (.inr (some (4, 0)))], _)) (b := true) (by decide +kernel) rfl rfl ?_
  refine c_putI Z (idx := 9) (ss := 1) (zmU (j := 146) rfl (by decide)) (by decide) (by decide) rfl (by decide +kernel) rfl (by decide +kernel) ?_
  refine zblq Z rfl [(.aload 0, 1), (.iconst 6, 2)] (S' := (12, [(0, .inr (.inr (some (4, 0)))), (1, .inr (.inr (some (3, 0))))], [.inl (6 : Int32), .inr (.inr (some (4, 0)))], _)) (b := true) (by decide +kernel) rfl rfl ?_
  refine c_newa (n := 0) hW hs rfl (kk := 503) (i := 0) rfl Z (Or.inl ⟨rfl, rfl⟩) rfl acl_0 (by decide) ⟨by exact Nat.le_of_ble_eq_true rfl, by exact Nat.le_of_ble_eq_true rfl⟩ (by decide +kernel) ?_
  replace Z := c_Z Z hW 148
  refine c_putR Z (idx := 15) (ss := 3) (zmU (j := 146) rfl (by decide)) (by decide) (by decide) rfl (by decide +kernel) (Or.inr ⟨rfl, hin, rfl⟩) (by decide +kernel) ?_
  refine zblq Z rfl [(.aload 0, 1), (.iconst 30, 2)] (S' := (20, [(0, .inr (.inr (some (4, 0)))), (1, .inr (.inr (some (3, 0))))], [.inl (30 : Int32), .inr (.inr (some (4, 0)))], _)) (b := true) (by decide +kernel) rfl rfl ?_
  refine c_newa (n := 1) hW hs rfl (kk := 504) (i := 0) rfl Z (Or.inl ⟨rfl, rfl⟩) rfl acl_0 (by decide) ⟨by exact Nat.le_of_ble_eq_true rfl, by exact Nat.le_of_ble_eq_true rfl⟩ (by decide +kernel) ?_
  replace Z := c_Z Z hW 149
  refine c_putR Z (idx := 19) (ss := 4) (zmU (j := 146) rfl (by decide)) (by decide) (by decide) rfl (by decide +kernel) (Or.inr ⟨rfl, hin, rfl⟩) (by decide +kernel) ?_
  refine zblq Z rfl [(.aload 0, 1), (.iconst 6, 2)] (S' := (28, [(0, .inr (.inr (some (4, 0)))), (1, .inr (.inr (some (3, 0))))], [.inl (6 : Int32), .inr (.inr (some (4, 0)))], _)) (b := true) (by decide +kernel) rfl rfl ?_
  refine c_newa (n := 2) hW hs rfl (kk := 505) (i := 0) rfl Z (Or.inl ⟨rfl, rfl⟩) rfl acl_0 (by decide) ⟨by exact Nat.le_of_ble_eq_true rfl, by exact Nat.le_of_ble_eq_true rfl⟩ (by decide +kernel) ?_
  replace Z := c_Z Z hW 150
  refine c_putR Z (idx := 22) (ss := 5) (zmU (j := 146) rfl (by decide)) (by decide) (by decide) rfl (by decide +kernel) (Or.inr ⟨rfl, hin, rfl⟩) (by decide +kernel) ?_
  refine zblq Z rfl [(.aload 0, 1), (.iconst 30, 2)] (S' := (36, [(0, .inr (.inr (some (4, 0)))), (1, .inr (.inr (some (3, 0))))], [.inl (30 : Int32), .inr (.inr (some (4, 0)))], _)) (b := true) (by decide +kernel) rfl rfl ?_
  refine c_newa (n := 3) hW hs rfl (kk := 506) (i := 0) rfl Z (Or.inl ⟨rfl, rfl⟩) rfl acl_0 (by decide) ⟨by exact Nat.le_of_ble_eq_true rfl, by exact Nat.le_of_ble_eq_true rfl⟩ (by decide +kernel) ?_
  replace Z := c_Z Z hW 151
  refine c_putR Z (idx := 25) (ss := 6) (zmU (j := 146) rfl (by decide)) (by decide) (by decide) rfl (by decide +kernel) (Or.inr ⟨rfl, hin, rfl⟩) (by decide +kernel) ?_
  refine zblq Z rfl [(.aload 0, 1), (.iconst 30, 2)] (S' := (44, [(0, .inr (.inr (some (4, 0)))), (1, .inr (.inr (some (3, 0))))], [.inl (30 : Int32), .inr (.inr (some (4, 0)))], _)) (b := true) (by decide +kernel) rfl rfl ?_
  refine c_newa (n := 4) hW hs rfl (kk := 507) (i := 0) rfl Z (Or.inl ⟨rfl, rfl⟩) rfl acl_0 (by decide) ⟨by exact Nat.le_of_ble_eq_true rfl, by exact Nat.le_of_ble_eq_true rfl⟩ (by decide +kernel) ?_
  replace Z := c_Z Z hW 152
  refine c_putR Z (idx := 28) (ss := 7) (zmU (j := 146) rfl (by decide)) (by decide) (by decide) rfl (by decide +kernel) (Or.inr ⟨rfl, hin, rfl⟩) (by decide +kernel) ?_
  refine zblq Z rfl [(.aload 0, 1), (.iconst 6, 2)] (S' := (52, [(0, .inr (.inr (some (4, 0)))), (1, .inr (.inr (some (3, 0))))], [.inl (6 : Int32), .inr (.inr (some (4, 0)))], _)) (b := true) (by decide +kernel) rfl rfl ?_
  refine c_newa (n := 5) hW hs rfl (kk := 508) (i := 0) rfl Z (Or.inl ⟨rfl, rfl⟩) rfl acl_0 (by decide) ⟨by exact Nat.le_of_ble_eq_true rfl, by exact Nat.le_of_ble_eq_true rfl⟩ (by decide +kernel) ?_
  replace Z := c_Z Z hW 153
  refine c_putR Z (idx := 31) (ss := 8) (zmU (j := 146) rfl (by decide)) (by decide) (by decide) rfl (by decide +kernel) (Or.inl rfl) (by decide +kernel) ?_
  refine zblq Z rfl [(.aload 0, 1), (.iconst 6, 2)] (S' := (60, [(0, .inr (.inr (some (4, 0)))), (1, .inr (.inr (some (3, 0))))], [.inl (6 : Int32), .inr (.inr (some (4, 0)))], _)) (b := true) (by decide +kernel) rfl rfl ?_
  refine c_newa (n := 6) hW hs rfl (kk := 508) (i := 1) rfl Z (Or.inl ⟨rfl, rfl⟩) rfl acl_0 (by decide) ⟨by exact Nat.le_of_ble_eq_true rfl, by exact Nat.le_of_ble_eq_true rfl⟩ (by decide +kernel) ?_
  replace Z := c_Z Z hW 154
  refine c_putR Z (idx := 34) (ss := 9) (zmU (j := 146) rfl (by decide)) (by decide) (by decide) rfl (by decide +kernel) (Or.inl rfl) (by decide +kernel) ?_
  refine zblq Z rfl [(.aload 0, 1), (.iconst 7776, 3)] (S' := (69, [(0, .inr (.inr (some (4, 0)))), (1, .inr (.inr (some (3, 0))))], [.inl (7776 : Int32), .inr (.inr (some (4, 0)))], _)) (b := true) (by decide +kernel) rfl rfl ?_
  refine c_newa (n := 7) hW hs rfl (kk := 510) (i := 0) rfl Z (Or.inl ⟨rfl, rfl⟩) rfl acl_0 (by decide) ⟨by exact Nat.le_of_ble_eq_true rfl, by exact Nat.le_of_ble_eq_true rfl⟩ (by decide +kernel) ?_
  replace Z := c_Z Z hW 155
  refine c_putR Z (idx := 37) (ss := 10) (zmU (j := 146) rfl (by decide)) (by decide) (by decide) rfl (by decide +kernel) (Or.inr ⟨rfl, hin, rfl⟩) (by decide +kernel) ?_
  refine zblq Z rfl [(.aload 0, 1), (.iconst 1296, 3)] (S' := (78, [(0, .inr (.inr (some (4, 0)))), (1, .inr (.inr (some (3, 0))))], [.inl (1296 : Int32), .inr (.inr (some (4, 0)))], _)) (b := true) (by decide +kernel) rfl rfl ?_
  refine c_newa (n := 8) hW hs rfl (kk := 511) (i := 0) rfl Z (Or.inl ⟨rfl, rfl⟩) rfl acl_0 (by decide) ⟨by exact Nat.le_of_ble_eq_true rfl, by exact Nat.le_of_ble_eq_true rfl⟩ (by decide +kernel) ?_
  replace Z := c_Z Z hW 156
  refine c_putR Z (idx := 40) (ss := 11) (zmU (j := 146) rfl (by decide)) (by decide) (by decide) rfl (by decide +kernel) (Or.inr ⟨rfl, hin, rfl⟩) (by decide +kernel) ?_
  refine zblq Z rfl [(.aload 0, 1), (.iconst 487, 3)] (S' := (87, [(0, .inr (.inr (some (4, 0)))), (1, .inr (.inr (some (3, 0))))], [.inl (487 : Int32), .inr (.inr (some (4, 0)))], _)) (b := true) (by decide +kernel) rfl rfl ?_
  refine c_newa (n := 9) hW hs rfl (kk := 512) (i := 0) rfl Z (Or.inl ⟨rfl, rfl⟩) rfl acl_0 (by decide) ⟨by exact Nat.le_of_ble_eq_true rfl, by exact Nat.le_of_ble_eq_true rfl⟩ (by decide +kernel) ?_
  replace Z := c_Z Z hW 157
  refine c_putR Z (idx := 43) (ss := 12) (zmU (j := 146) rfl (by decide)) (by decide) (by decide) rfl (by decide +kernel) (Or.inr ⟨rfl, hin, rfl⟩) (by decide +kernel) ?_
  refine zblq Z rfl [(.aload 0, 1), (.aload 1, 1)] (S' := (94, [(0, .inr (.inr (some (4, 0)))), (1, .inr (.inr (some (3, 0))))], [.inr (.inr (some (3, 0))), .inr (.inr (some (4, 0)))], _)) (b := true) (by decide +kernel) rfl rfl ?_
  refine c_putR Z (idx := 46) (ss := 0) (zmU (j := 146) rfl (by decide)) (by decide) (by decide) rfl (by decide +kernel) (Or.inr ⟨rfl, hin, rfl⟩) (by decide +kernel) ?_
  refine zblq Z rfl [(.aload 0, 1)] (S' := (98, [(0, .inr (.inr (some (4, 0)))), (1, .inr (.inr (some (3, 0))))], [.inr (.inr (some (4, 0)))], _)) (b := true) (by decide +kernel) rfl rfl ?_
  refine c_getR Z (idx := 19) (ss := 4) (r := (504, 0)) (zmU (j := 146) rfl (by decide)) (by decide) (by decide) rfl (by decide +kernel) rfl (by decide +kernel) ?_
  refine zblq Z rfl [(.iconst 2, 1)] (S' := (102, [(0, .inr (.inr (some (4, 0)))), (1, .inr (.inr (some (3, 0))))], [.inl (2 : Int32), .inr (.inr (some (504, 0)))], _)) (b := true) (by decide +kernel) rfl rfl ?_
  refine zcallS Z (as := [.inr (.inr (some (504, 0))), .inl (2 : Int32)]) (st := []) (c_fill (zGt_ok hW _) (zmU (j := 148) rfl (by decide)) rfl (by decide)) cwi4_50 mJ7_fill_in rfl ⟨by exact Nat.le_of_ble_eq_true rfl, by exact Nat.le_of_ble_eq_true rfl⟩ rfl (by decide +kernel) ⟨by exact Nat.le_of_ble_eq_true rfl, by exact Nat.le_of_ble_eq_true rfl⟩ ?_
  exact zret_c Z hA hE (by decide +kernel)
def mk11_0 (M : zM) : zM := zwF (mk4_0 (zclr (zwF (mk6_0 (zclr (zwF (mk1_0 (zclr (zwF (mk5_0 (zclr (zwF (mk0_0 (zclr (zwF (mk10_0 (zclr (zwF (mk3_0 (zclr M 3 0)) 11 0 0 (3, 0)) 10 0)) 11 0 1 (10, 0)) 0 0)) 11 0 2 (0, 0)) 5 0)) 11 0 3 (5, 0)) 1 0)) 11 0 4 (1, 0)) 6 0)) 11 0 5 (6, 0)) 4 0)) 11 0 6 (4, 0)
set_option maxRecDepth 100000 in
theorem ct11_0 {l : Launch} {D : va_G} {ad : zR → Nat} {ca : Nat → ClassId} {A : Nat → Prop} {base : Nat} (hW : zWh zUC base ad A) (M : zM) : zMetC l yX11_init cX11_init 1 5 156 11205 95 [.inr (.inr (some (11, 0)))] (base + 1) (zGt zUC D ad ca A 1) M (zGt zUC D ad ca A 157) (mk11_0 M) := by
  refine zMetC_of (zGt_ok hW _) rfl tbK11_ok rfl rfl (by decide +kernel) (Nat.le_of_ble_eq_true rfl) (fun X _ Z hA hE => ?_)
  obtain ⟨p, l', e, R, s, m, args, below, meth, c, Q⟩ := X
  obtain ⟨hR, -, hin, hs, ho1, ho2⟩ := id hA
  subst hR
  refine zblq Z rfl [(.aload 0, 1)] (S' := (1, [(0, .inr (.inr (some (11, 0))))], [.inr (.inr (some (11, 0)))], _)) (b := true) (by decide +kernel) rfl rfl ?_
  refine z_obj Z ol11_1 ol_in ol_cd ⟨by exact Nat.le_of_ble_eq_true rfl, by exact Nat.le_of_ble_eq_true rfl⟩ (by decide +kernel) ?_
  refine zblq Z rfl [(.aload 0, 1)] (S' := (5, [(0, .inr (.inr (some (11, 0))))], [.inr (.inr (some (11, 0)))], _)) (b := true) (by decide +kernel) rfl rfl ?_
  refine c_new (n := 0) hW hs rfl (kk := 3) (i := 0) rfl Z (by decide) lk11_7 ist_3 ini_3 ⟨by exact Nat.le_of_ble_eq_true rfl, by exact Nat.le_of_ble_eq_true rfl⟩ (by decide +kernel) ?_
  replace Z := c_Z Z hW 2
  refine zblq Z rfl [(.dup, 1)] (S' := (9, [(0, .inr (.inr (some (11, 0))))], [.inr (.inr (some (3, 0))), .inr (.inr (some (3, 0))), .inr (.inr (some (11, 0)))], _)) (b := true) (by decide +kernel) rfl rfl ?_
  refine c_call (n := 1) hW hs rfl (by decide +kernel) Z (as := []) (st := [.inr (.inr (some (3, 0))), .inr (.inr (some (11, 0)))]) (mc := 114) (ms := 907) (ct3_0 hW _) ho1 ho2 cwi11_9 mi3_in rfl rfl ⟨by exact Nat.le_of_ble_eq_true rfl, by exact Nat.le_of_ble_eq_true rfl⟩ rfl (by decide +kernel) ⟨by exact Nat.le_of_ble_eq_true rfl, by exact Nat.le_of_ble_eq_true rfl⟩ ?_
  replace Z := c_Z Z hW 116
  refine c_putR Z (idx := 10) (ss := 0) (zmU (j := 0) rfl (by decide)) (by decide) (by decide) rfl (by decide +kernel) (Or.inr ⟨rfl, hin, rfl⟩) (by decide +kernel) ?_
  refine zblq Z rfl [(.aload 0, 1)] (S' := (16, [(0, .inr (.inr (some (11, 0))))], [.inr (.inr (some (11, 0)))], _)) (b := true) (by decide +kernel) rfl rfl ?_
  refine c_new (n := 115) hW hs rfl (kk := 10) (i := 0) rfl Z (by decide) lk11_16 ist_10 ini_10 ⟨by exact Nat.le_of_ble_eq_true rfl, by exact Nat.le_of_ble_eq_true rfl⟩ (by decide +kernel) ?_
  replace Z := c_Z Z hW 117
  refine zblq Z rfl [(.dup, 1)] (S' := (20, [(0, .inr (.inr (some (11, 0))))], [.inr (.inr (some (10, 0))), .inr (.inr (some (10, 0))), .inr (.inr (some (11, 0)))], _)) (b := true) (by decide +kernel) rfl rfl ?_
  refine c_call (n := 116) hW hs rfl (by decide +kernel) Z (as := []) (st := [.inr (.inr (some (10, 0))), .inr (.inr (some (11, 0)))]) (mc := 5) (ms := 150) (ct10_0 hW _) ho1 ho2 cwi11_18 mi10_in rfl rfl ⟨by exact Nat.le_of_ble_eq_true rfl, by exact Nat.le_of_ble_eq_true rfl⟩ rfl (by decide +kernel) ⟨by exact Nat.le_of_ble_eq_true rfl, by exact Nat.le_of_ble_eq_true rfl⟩ ?_
  replace Z := c_Z Z hW 122
  refine c_putR Z (idx := 19) (ss := 1) (zmU (j := 0) rfl (by decide)) (by decide) (by decide) rfl (by decide +kernel) (Or.inr ⟨rfl, hin, rfl⟩) (by decide +kernel) ?_
  refine zblq Z rfl [(.aload 0, 1)] (S' := (27, [(0, .inr (.inr (some (11, 0))))], [.inr (.inr (some (11, 0)))], _)) (b := true) (by decide +kernel) rfl rfl ?_
  refine c_new (n := 121) hW hs rfl (kk := 0) (i := 0) rfl Z (by decide) lk11_23 ist_0 ini_0 ⟨by exact Nat.le_of_ble_eq_true rfl, by exact Nat.le_of_ble_eq_true rfl⟩ (by decide +kernel) ?_
  replace Z := c_Z Z hW 123
  refine zblq Z rfl [(.dup, 1), (.aload 0, 1)] (S' := (32, [(0, .inr (.inr (some (11, 0))))], [.inr (.inr (some (11, 0))), .inr (.inr (some (0, 0))), .inr (.inr (some (0, 0))), .inr (.inr (some (11, 0)))], _)) (b := true) (by decide +kernel) rfl rfl ?_
  refine c_getR Z (idx := 10) (ss := 0) (r := (3, 0)) (zmU (j := 0) rfl (by decide)) (by decide) (by decide) rfl (by decide +kernel) rfl (by decide +kernel) ?_
  refine c_call (n := 122) hW hs rfl (by decide +kernel) Z (as := [.inr (.inr (some (3, 0)))]) (st := [.inr (.inr (some (0, 0))), .inr (.inr (some (11, 0)))]) (mc := 7) (ms := 55) (ct0_0 hW _) ho1 ho2 cwi11_25 mi0_in rfl rfl ⟨by exact Nat.le_of_ble_eq_true rfl, by exact Nat.le_of_ble_eq_true rfl⟩ rfl (by decide +kernel) ⟨by exact Nat.le_of_ble_eq_true rfl, by exact Nat.le_of_ble_eq_true rfl⟩ ?_
  replace Z := c_Z Z hW 130
  refine c_putR Z (idx := 28) (ss := 2) (zmU (j := 0) rfl (by decide)) (by decide) (by decide) rfl (by decide +kernel) (Or.inr ⟨rfl, hin, rfl⟩) (by decide +kernel) ?_
  refine zblq Z rfl [(.aload 0, 1)] (S' := (42, [(0, .inr (.inr (some (11, 0))))], [.inr (.inr (some (11, 0)))], _)) (b := true) (by decide +kernel) rfl rfl ?_
  refine c_new (n := 129) hW hs rfl (kk := 5) (i := 0) rfl Z (by decide) lk11_32 ist_5 ini_5 ⟨by exact Nat.le_of_ble_eq_true rfl, by exact Nat.le_of_ble_eq_true rfl⟩ (by decide +kernel) ?_
  replace Z := c_Z Z hW 131
  refine zblq Z rfl [(.dup, 1), (.aload 0, 1)] (S' := (47, [(0, .inr (.inr (some (11, 0))))], [.inr (.inr (some (11, 0))), .inr (.inr (some (5, 0))), .inr (.inr (some (5, 0))), .inr (.inr (some (11, 0)))], _)) (b := true) (by decide +kernel) rfl rfl ?_
  refine c_getR Z (idx := 10) (ss := 0) (r := (3, 0)) (zmU (j := 0) rfl (by decide)) (by decide) (by decide) rfl (by decide +kernel) rfl (by decide +kernel) ?_
  refine zblq Z rfl [(.aload 0, 1)] (S' := (51, [(0, .inr (.inr (some (11, 0))))], [.inr (.inr (some (11, 0))), .inr (.inr (some (3, 0))), .inr (.inr (some (5, 0))), .inr (.inr (some (5, 0))), .inr (.inr (some (11, 0)))], _)) (b := true) (by decide +kernel) rfl rfl ?_
  refine c_getR Z (idx := 28) (ss := 2) (r := (0, 0)) (zmU (j := 0) rfl (by decide)) (by decide) (by decide) rfl (by decide +kernel) rfl (by decide +kernel) ?_
  refine c_getR Z (idx := 34) (ss := 1) (r := (7, 1)) (zmU (j := 122) rfl (by decide)) (by decide) (by decide) rfl (by decide +kernel) rfl (by decide +kernel) ?_
  refine c_call (n := 130) hW hs rfl (by decide +kernel) Z (as := [.inr (.inr (some (3, 0))), .inr (.inr (some (7, 1)))]) (st := [.inr (.inr (some (5, 0))), .inr (.inr (some (11, 0)))]) (mc := 6) (ms := 150) (ct5_0 hW _) ho1 ho2 cwi11_38 mi5_in rfl rfl ⟨by exact Nat.le_of_ble_eq_true rfl, by exact Nat.le_of_ble_eq_true rfl⟩ rfl (by decide +kernel) ⟨by exact Nat.le_of_ble_eq_true rfl, by exact Nat.le_of_ble_eq_true rfl⟩ ?_
  replace Z := c_Z Z hW 137
  refine c_putR Z (idx := 41) (ss := 3) (zmU (j := 0) rfl (by decide)) (by decide) (by decide) rfl (by decide +kernel) (Or.inr ⟨rfl, hin, rfl⟩) (by decide +kernel) ?_
  refine zblq Z rfl [(.aload 0, 1)] (S' := (64, [(0, .inr (.inr (some (11, 0))))], [.inr (.inr (some (11, 0)))], _)) (b := true) (by decide +kernel) rfl rfl ?_
  refine c_new (n := 136) hW hs rfl (kk := 1) (i := 0) rfl Z (by decide) lk11_45 ist_1 ini_1 ⟨by exact Nat.le_of_ble_eq_true rfl, by exact Nat.le_of_ble_eq_true rfl⟩ (by decide +kernel) ?_
  replace Z := c_Z Z hW 138
  refine zblq Z rfl [(.dup, 1), (.aload 0, 1)] (S' := (69, [(0, .inr (.inr (some (11, 0))))], [.inr (.inr (some (11, 0))), .inr (.inr (some (1, 0))), .inr (.inr (some (1, 0))), .inr (.inr (some (11, 0)))], _)) (b := true) (by decide +kernel) rfl rfl ?_
  refine c_getR Z (idx := 10) (ss := 0) (r := (3, 0)) (zmU (j := 0) rfl (by decide)) (by decide) (by decide) rfl (by decide +kernel) rfl (by decide +kernel) ?_
  refine c_call (n := 137) hW hs rfl (by decide +kernel) Z (as := [.inr (.inr (some (3, 0)))]) (st := [.inr (.inr (some (1, 0))), .inr (.inr (some (11, 0)))]) (mc := 6) (ms := 200) (ct1_0 hW _) ho1 ho2 cwi11_47 mi1_in rfl rfl ⟨by exact Nat.le_of_ble_eq_true rfl, by exact Nat.le_of_ble_eq_true rfl⟩ rfl (by decide +kernel) ⟨by exact Nat.le_of_ble_eq_true rfl, by exact Nat.le_of_ble_eq_true rfl⟩ ?_
  replace Z := c_Z Z hW 144
  refine c_putR Z (idx := 48) (ss := 4) (zmU (j := 0) rfl (by decide)) (by decide) (by decide) rfl (by decide +kernel) (Or.inr ⟨rfl, hin, rfl⟩) (by decide +kernel) ?_
  refine zblq Z rfl [(.aload 0, 1)] (S' := (79, [(0, .inr (.inr (some (11, 0))))], [.inr (.inr (some (11, 0)))], _)) (b := true) (by decide +kernel) rfl rfl ?_
  refine c_new (n := 143) hW hs rfl (kk := 6) (i := 0) rfl Z (by decide) lk11_52 ist_6 ini_6 ⟨by exact Nat.le_of_ble_eq_true rfl, by exact Nat.le_of_ble_eq_true rfl⟩ (by decide +kernel) ?_
  replace Z := c_Z Z hW 145
  refine zblq Z rfl [(.dup, 1), (.aload 0, 1)] (S' := (84, [(0, .inr (.inr (some (11, 0))))], [.inr (.inr (some (11, 0))), .inr (.inr (some (6, 0))), .inr (.inr (some (6, 0))), .inr (.inr (some (11, 0)))], _)) (b := true) (by decide +kernel) rfl rfl ?_
  refine c_getR Z (idx := 10) (ss := 0) (r := (3, 0)) (zmU (j := 0) rfl (by decide)) (by decide) (by decide) rfl (by decide +kernel) rfl (by decide +kernel) ?_
  refine c_call (n := 144) hW hs rfl (by decide +kernel) Z (as := [.inr (.inr (some (3, 0)))]) (st := [.inr (.inr (some (6, 0))), .inr (.inr (some (11, 0)))]) (mc := 1) (ms := 10) (ct6_0 hW _) ho1 ho2 cwi11_54 mi6_in rfl rfl ⟨by exact Nat.le_of_ble_eq_true rfl, by exact Nat.le_of_ble_eq_true rfl⟩ rfl (by decide +kernel) ⟨by exact Nat.le_of_ble_eq_true rfl, by exact Nat.le_of_ble_eq_true rfl⟩ ?_
  replace Z := c_Z Z hW 146
  refine c_putR Z (idx := 55) (ss := 5) (zmU (j := 0) rfl (by decide)) (by decide) (by decide) rfl (by decide +kernel) (Or.inr ⟨rfl, hin, rfl⟩) (by decide +kernel) ?_
  refine zblq Z rfl [(.aload 0, 1)] (S' := (94, [(0, .inr (.inr (some (11, 0))))], [.inr (.inr (some (11, 0)))], _)) (b := true) (by decide +kernel) rfl rfl ?_
  refine c_new (n := 145) hW hs rfl (kk := 4) (i := 0) rfl Z (by decide) lk11_59 ist_4 ini_4 ⟨by exact Nat.le_of_ble_eq_true rfl, by exact Nat.le_of_ble_eq_true rfl⟩ (by decide +kernel) ?_
  replace Z := c_Z Z hW 147
  refine zblq Z rfl [(.dup, 1), (.aload 0, 1)] (S' := (99, [(0, .inr (.inr (some (11, 0))))], [.inr (.inr (some (11, 0))), .inr (.inr (some (4, 0))), .inr (.inr (some (4, 0))), .inr (.inr (some (11, 0)))], _)) (b := true) (by decide +kernel) rfl rfl ?_
  refine c_getR Z (idx := 10) (ss := 0) (r := (3, 0)) (zmU (j := 0) rfl (by decide)) (by decide) (by decide) rfl (by decide +kernel) rfl (by decide +kernel) ?_
  refine c_call (n := 146) hW hs rfl (by decide +kernel) Z (as := [.inr (.inr (some (3, 0)))]) (st := [.inr (.inr (some (4, 0))), .inr (.inr (some (11, 0)))]) (mc := 10) (ms := 9673) (ct4_0 hW _) ho1 ho2 cwi11_61 mi4_in rfl rfl ⟨by exact Nat.le_of_ble_eq_true rfl, by exact Nat.le_of_ble_eq_true rfl⟩ rfl (by decide +kernel) ⟨by exact Nat.le_of_ble_eq_true rfl, by exact Nat.le_of_ble_eq_true rfl⟩ ?_
  replace Z := c_Z Z hW 157
  refine c_putR Z (idx := 62) (ss := 6) (zmU (j := 0) rfl (by decide)) (by decide) (by decide) rfl (by decide +kernel) (Or.inr ⟨rfl, hin, rfl⟩) (by decide +kernel) ?_
  exact zret_c Z hA hE (by decide +kernel)
