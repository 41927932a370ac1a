theorem eO_fin {n : Nat} {r r' : Int32} {MC : cM} {MR : rM} (hr : r = r') (h : eRel (n + 1) MC MR) : eO n (some (r, MC)) (some (r', MR)) := ⟨r, MC, MR, rfl, by rw [hr], h⟩
theorem o_sleep {n : Nat} {MC : cM} {MR : rM} (h : eRel n MC MR) (x1 x2 x3 : Int32) : eO n (m11_sleep x1 x2 x3 MC) (m12_sleep x1 x2 x3 MR) := by
  obtain ⟨m, t, hm, ht, g0, g1, g2, g3, g4, g5, g6, g7, g8, g9⟩ := h
  unfold m11_sleep m12_sleep
  rcases e_bx x1 m hm with hb | ⟨b, hb, rfl⟩
  · simp only [kn_n g0.1 hb, ib_n g0.2.1 hm hb, zbd_s, zbv_s, zgd_t, Bool.and_true, Bool.true_and, Bool.and_self, if_true, if_false, e_01, eq_self, Bool.false_eq_true]
    exact eO_same ⟨m, t, hm, ht, g0, g1, g2, g3, g4, g5, g6, g7, g8, g9⟩
  have hb10 : b < 10 := by omega
  simp only [kn_y g0.1 hm hb, ib_y g0.2.1 hm hb, of_y hb10, blt_t hb10, ezin_nI hb10 (show 10 < 2 ^ 31 by decide), ex_nI (show b < 2 ^ 31 by omega), zbd_s, zbv_s, zgd_t, Bool.and_true, Bool.true_and, Bool.and_self, if_true, if_false, e_01, eq_self, Bool.false_eq_true]
  rcases (Classical.em ((1 : Int32) ≤ x2 ∧ x2 ≤ 12)).symm with h2 | h2
  · simp only [out_y h2, in_n h2, zbd_s, zbv_s, zgd_t, Bool.and_true, Bool.true_and, Bool.and_self, if_true, if_false, e_01, eq_self, Bool.false_eq_true]
    exact eO_same ⟨m, t, hm, ht, g0, g1, g2, g3, g4, g5, g6, g7, g8, g9⟩
  simp only [out_n h2.1 h2.2, in_y h2.1 h2.2, zbd_s, zbv_s, zgd_t, Bool.and_true, Bool.true_and, Bool.and_self, if_true, if_false, e_01, eq_self, Bool.false_eq_true]
  rcases (Classical.em ((0 : Int32) ≤ x3 ∧ x3 ≤ zshl 1 x2 - 1)).symm with h3 | h3
  · simp only [out_y h3, in_n h3, zbd_s, zbv_s, zgd_t, Bool.and_true, Bool.true_and, Bool.and_self, if_true, if_false, e_01, eq_self, Bool.false_eq_true]
    exact eO_same ⟨m, t, hm, ht, g0, g1, g2, g3, g4, g5, g6, g7, g8, g9⟩
  simp only [out_n h3.1 h3.2, in_y h3.1 h3.2, zbd_s, zbv_s, zgd_t, Bool.and_true, Bool.true_and, Bool.and_self, if_true, if_false, e_01, eq_self, Bool.false_eq_true]
  refine eO_fin rfl ⟨m, t, hm, ht, eG0_fr g0 (K := [10203, 10204]) (K' := [1303, 1304]) (by repeat (first | exact eF_refl | refine eF_cs ?_ rfl)) (by repeat (first | exact eH_refl | refine eH_rs ?_ rfl | refine eH_rsl ?_)) rfl rfl, ?_, eG2_fr g2 (K := [10203, 10204]) (K' := [1303, 1304]) (by repeat (first | exact eF_refl | refine eF_cs ?_ rfl)) (by repeat (first | exact eH_refl | refine eH_rs ?_ rfl | refine eH_rsl ?_)) rfl rfl, eG3_fr g3 (K := [10203, 10204]) (K' := [1303, 1304]) (by repeat (first | exact eF_refl | refine eF_cs ?_ rfl)) (by repeat (first | exact eH_refl | refine eH_rs ?_ rfl | refine eH_rsl ?_)) (fun _ _ => rfl) rfl rfl, eG4_fr g4 (K := [10203, 10204]) (K' := [1303, 1304]) (by repeat (first | exact eF_refl | refine eF_cs ?_ rfl)) (by repeat (first | exact eH_refl | refine eH_rs ?_ rfl | refine eH_rsl ?_)) rfl rfl, eG5_fr g5 (K := [10203, 10204]) (K' := [1303, 1304]) (by repeat (first | exact eF_refl | refine eF_cs ?_ rfl)) (by repeat (first | exact eH_refl | refine eH_rs ?_ rfl | refine eH_rsl ?_)) rfl rfl, eG6_fr g6 (K := [10203, 10204]) (K' := [1303, 1304]) (by repeat (first | exact eF_refl | refine eF_cs ?_ rfl)) (by repeat (first | exact eH_refl | refine eH_rs ?_ rfl | refine eH_rsl ?_)) rfl rfl, eG7_mono (eG7_fr g7 (K := [10203, 10204]) (K' := [1303, 1304]) (by repeat (first | exact eF_refl | refine eF_cs ?_ rfl)) (by repeat (first | exact eH_refl | refine eH_rs ?_ rfl | refine eH_rsl ?_)) rfl rfl) (Nat.le_succ n), eG8_fr g8 (K := [10203, 10204]) (K' := [1303, 1304]) (by repeat (first | exact eF_refl | refine eF_cs ?_ rfl)) (by repeat (first | exact eH_refl | refine eH_rs ?_ rfl | refine eH_rsl ?_)) ⟨rfl, rfl⟩ rfl rfl, eG9_fr g9 (K := [10203, 10204]) (K' := [1303, 1304]) (by repeat (first | exact eF_refl | refine eF_cs ?_ rfl)) (by repeat (first | exact eH_refl | refine eH_rs ?_ rfl | refine eH_rsl ?_)) rfl rfl⟩
  unfold eG1 at *
  simp only [cg_cs, rg_rs]
  grind
theorem o_clock {n : Nat} {MC : cM} {MR : rM} (h : eRel n MC MR) (x1 x2 x3 : Int32) : eO n (m11_clock x1 x2 x3 MC) (m12_clock x1 x2 x3 MR) := by
  obtain ⟨m, t, hm, ht, g0, g1, g2, g3, g4, g5, g6, g7, g8, g9⟩ := h
  unfold m11_clock m12_clock
  rcases e_bx x1 m hm with hb | ⟨b, hb, rfl⟩
  · simp only [kn_n g0.1 hb, ib_n g0.2.1 hm hb, zbd_s, zbv_s, zgd_t, Bool.and_true, Bool.true_and, Bool.and_self, if_true, if_false, e_01, eq_self, Bool.false_eq_true]
    exact eO_same ⟨m, t, hm, ht, g0, g1, g2, g3, g4, g5, g6, g7, g8, g9⟩
  have hb10 : b < 10 := by omega
  simp only [kn_y g0.1 hm hb, ib_y g0.2.1 hm hb, of_y hb10, blt_t hb10, ezin_nI hb10 (show 10 < 2 ^ 31 by decide), ex_nI (show b < 2 ^ 31 by omega), zbd_s, zbv_s, zgd_t, Bool.and_true, Bool.true_and, Bool.and_self, if_true, if_false, e_01, eq_self, Bool.false_eq_true]
  rcases (Classical.em ((-20 : Int32) ≤ x2 ∧ x2 ≤ 20)).symm with h2 | h2
  · simp only [out_y h2, in_n h2, zbd_s, zbv_s, zgd_t, Bool.and_true, Bool.true_and, Bool.and_self, if_true, if_false, e_01, eq_self, Bool.false_eq_true]
    exact eO_same ⟨m, t, hm, ht, g0, g1, g2, g3, g4, g5, g6, g7, g8, g9⟩
  simp only [out_n h2.1 h2.2, in_y h2.1 h2.2, zbd_s, zbv_s, zgd_t, Bool.and_true, Bool.true_and, Bool.and_self, if_true, if_false, e_01, eq_self, Bool.false_eq_true]
  rcases (Classical.em ((-50 : Int32) ≤ x3 ∧ x3 ≤ 50)).symm with h3 | h3
  · simp only [out_y h3, in_n h3, zbd_s, zbv_s, zgd_t, Bool.and_true, Bool.true_and, Bool.and_self, if_true, if_false, e_01, eq_self, Bool.false_eq_true]
    exact eO_same ⟨m, t, hm, ht, g0, g1, g2, g3, g4, g5, g6, g7, g8, g9⟩
  simp only [out_n h3.1 h3.2, in_y h3.1 h3.2, zbd_s, zbv_s, zgd_t, Bool.and_true, Bool.true_and, Bool.and_self, if_true, if_false, e_01, eq_self, Bool.false_eq_true]
  refine eO_fin rfl ⟨m, t, hm, ht, eG0_fr g0 (K := [10205, 10206]) (K' := [1305, 1306]) (by repeat (first | exact eF_refl | refine eF_cs ?_ rfl)) (by repeat (first | exact eH_refl | refine eH_rs ?_ rfl | refine eH_rsl ?_)) rfl rfl, ?_, eG2_fr g2 (K := [10205, 10206]) (K' := [1305, 1306]) (by repeat (first | exact eF_refl | refine eF_cs ?_ rfl)) (by repeat (first | exact eH_refl | refine eH_rs ?_ rfl | refine eH_rsl ?_)) rfl rfl, eG3_fr g3 (K := [10205, 10206]) (K' := [1305, 1306]) (by repeat (first | exact eF_refl | refine eF_cs ?_ rfl)) (by repeat (first | exact eH_refl | refine eH_rs ?_ rfl | refine eH_rsl ?_)) (fun _ _ => rfl) rfl rfl, eG4_fr g4 (K := [10205, 10206]) (K' := [1305, 1306]) (by repeat (first | exact eF_refl | refine eF_cs ?_ rfl)) (by repeat (first | exact eH_refl | refine eH_rs ?_ rfl | refine eH_rsl ?_)) rfl rfl, eG5_fr g5 (K := [10205, 10206]) (K' := [1305, 1306]) (by repeat (first | exact eF_refl | refine eF_cs ?_ rfl)) (by repeat (first | exact eH_refl | refine eH_rs ?_ rfl | refine eH_rsl ?_)) rfl rfl, eG6_fr g6 (K := [10205, 10206]) (K' := [1305, 1306]) (by repeat (first | exact eF_refl | refine eF_cs ?_ rfl)) (by repeat (first | exact eH_refl | refine eH_rs ?_ rfl | refine eH_rsl ?_)) rfl rfl, eG7_mono (eG7_fr g7 (K := [10205, 10206]) (K' := [1305, 1306]) (by repeat (first | exact eF_refl | refine eF_cs ?_ rfl)) (by repeat (first | exact eH_refl | refine eH_rs ?_ rfl | refine eH_rsl ?_)) rfl rfl) (Nat.le_succ n), eG8_fr g8 (K := [10205, 10206]) (K' := [1305, 1306]) (by repeat (first | exact eF_refl | refine eF_cs ?_ rfl)) (by repeat (first | exact eH_refl | refine eH_rs ?_ rfl | refine eH_rsl ?_)) ⟨rfl, rfl⟩ rfl rfl, eG9_fr g9 (K := [10205, 10206]) (K' := [1305, 1306]) (by repeat (first | exact eF_refl | refine eF_cs ?_ rfl)) (by repeat (first | exact eH_refl | refine eH_rs ?_ rfl | refine eH_rsl ?_)) rfl rfl⟩
  unfold eG1 at *
  simp only [cg_cs, rg_rs]
  grind
theorem o_power {n : Nat} {MC : cM} {MR : rM} (h : eRel n MC MR) (x1 x2 : Int32) : eO n (m11_power x1 x2 MC) (m12_power x1 x2 MR) := by
  obtain ⟨m, t, hm, ht, g0, g1, g2, g3, g4, g5, g6, g7, g8, g9⟩ := h
  unfold m11_power m12_power
  rcases e_bx x1 m hm with hb | ⟨b, hb, rfl⟩
  · simp only [kn_n g0.1 hb, ib_n g0.2.1 hm hb, zbd_s, zbv_s, zgd_t, Bool.and_true, Bool.true_and, Bool.and_self, if_true, if_false, e_01, eq_self, Bool.false_eq_true]
    exact eO_same ⟨m, t, hm, ht, g0, g1, g2, g3, g4, g5, g6, g7, g8, g9⟩
  have hb10 : b < 10 := by omega
  simp only [kn_y g0.1 hm hb, ib_y g0.2.1 hm hb, of_y hb10, blt_t hb10, ezin_nI hb10 (show 10 < 2 ^ 31 by decide), ex_nI (show b < 2 ^ 31 by omega), zbd_s, zbv_s, zgd_t, Bool.and_true, Bool.true_and, Bool.and_self, if_true, if_false, e_01, eq_self, Bool.false_eq_true]
  rcases (Classical.em ((0 : Int32) ≤ x2 ∧ x2 ≤ 30000)).symm with h2 | h2
  · simp only [out_y h2, in_n h2, zbd_s, zbv_s, zgd_t, Bool.and_true, Bool.true_and, Bool.and_self, if_true, if_false, e_01, eq_self, Bool.false_eq_true]
    exact eO_same ⟨m, t, hm, ht, g0, g1, g2, g3, g4, g5, g6, g7, g8, g9⟩
  simp only [out_n h2.1 h2.2, in_y h2.1 h2.2, zbd_s, zbv_s, zgd_t, Bool.and_true, Bool.true_and, Bool.and_self, if_true, if_false, e_01, eq_self, Bool.false_eq_true]
  refine eO_fin (g1.1 b hb10).2.2.1.1 ⟨m, t, hm, ht, eG0_fr g0 (K := [10202]) (K' := [1302]) (by repeat (first | exact eF_refl | refine eF_cs ?_ rfl)) (by repeat (first | exact eH_refl | refine eH_rs ?_ rfl | refine eH_rsl ?_)) rfl rfl, ?_, eG2_fr g2 (K := [10202]) (K' := [1302]) (by repeat (first | exact eF_refl | refine eF_cs ?_ rfl)) (by repeat (first | exact eH_refl | refine eH_rs ?_ rfl | refine eH_rsl ?_)) rfl rfl, eG3_fr g3 (K := [10202]) (K' := [1302]) (by repeat (first | exact eF_refl | refine eF_cs ?_ rfl)) (by repeat (first | exact eH_refl | refine eH_rs ?_ rfl | refine eH_rsl ?_)) (fun _ _ => rfl) rfl rfl, eG4_fr g4 (K := [10202]) (K' := [1302]) (by repeat (first | exact eF_refl | refine eF_cs ?_ rfl)) (by repeat (first | exact eH_refl | refine eH_rs ?_ rfl | refine eH_rsl ?_)) rfl rfl, eG5_fr g5 (K := [10202]) (K' := [1302]) (by repeat (first | exact eF_refl | refine eF_cs ?_ rfl)) (by repeat (first | exact eH_refl | refine eH_rs ?_ rfl | refine eH_rsl ?_)) rfl rfl, eG6_fr g6 (K := [10202]) (K' := [1302]) (by repeat (first | exact eF_refl | refine eF_cs ?_ rfl)) (by repeat (first | exact eH_refl | refine eH_rs ?_ rfl | refine eH_rsl ?_)) rfl rfl, eG7_mono (eG7_fr g7 (K := [10202]) (K' := [1302]) (by repeat (first | exact eF_refl | refine eF_cs ?_ rfl)) (by repeat (first | exact eH_refl | refine eH_rs ?_ rfl | refine eH_rsl ?_)) rfl rfl) (Nat.le_succ n), eG8_fr g8 (K := [10202]) (K' := [1302]) (by repeat (first | exact eF_refl | refine eF_cs ?_ rfl)) (by repeat (first | exact eH_refl | refine eH_rs ?_ rfl | refine eH_rsl ?_)) ⟨rfl, rfl⟩ rfl rfl, eG9_fr g9 (K := [10202]) (K' := [1302]) (by repeat (first | exact eF_refl | refine eF_cs ?_ rfl)) (by repeat (first | exact eH_refl | refine eH_rs ?_ rfl | refine eH_rsl ?_)) rfl rfl⟩
  unfold eG1 at *
  simp only [cg_cs, rg_rs]
  grind
theorem o_lies {n : Nat} {MC : cM} {MR : rM} (h : eRel n MC MR) (x1 x2 : Int32) : eO n (m11_lies x1 x2 MC) (m12_lies x1 x2 MR) := by
  obtain ⟨m, t, hm, ht, g0, g1, g2, g3, g4, g5, g6, g7, g8, g9⟩ := h
  unfold m11_lies m12_lies
  rcases e_bx x1 m hm with hb | ⟨b, hb, rfl⟩
  · simp only [kn_n g0.1 hb, ib_n g0.2.1 hm hb, zbd_s, zbv_s, zgd_t, Bool.and_true, Bool.true_and, Bool.and_self, if_true, if_false, e_01, eq_self, Bool.false_eq_true]
    exact eO_same ⟨m, t, hm, ht, g0, g1, g2, g3, g4, g5, g6, g7, g8, g9⟩
  have hb10 : b < 10 := by omega
  simp only [kn_y g0.1 hm hb, ib_y g0.2.1 hm hb, of_y hb10, blt_t hb10, ezin_nI hb10 (show 10 < 2 ^ 31 by decide), ex_nI (show b < 2 ^ 31 by omega), zbd_s, zbv_s, zgd_t, Bool.and_true, Bool.true_and, Bool.and_self, if_true, if_false, e_01, eq_self, Bool.false_eq_true]
  rcases (Classical.em ((0 : Int32) ≤ x2 ∧ x2 ≤ 16)).symm with h2 | h2
  · simp only [out_y h2, in_n h2, zbd_s, zbv_s, zgd_t, Bool.and_true, Bool.true_and, Bool.and_self, if_true, if_false, e_01, eq_self, Bool.false_eq_true]
    exact eO_same ⟨m, t, hm, ht, g0, g1, g2, g3, g4, g5, g6, g7, g8, g9⟩
  simp only [out_n h2.1 h2.2, in_y h2.1 h2.2, zbd_s, zbv_s, zgd_t, Bool.and_true, Bool.true_and, Bool.and_self, if_true, if_false, e_01, eq_self, Bool.false_eq_true]
  refine eO_fin (g1.1 b hb10).2.2.2.2.2.2.1.1 ⟨m, t, hm, ht, eG0_fr g0 (K := [10210]) (K' := [1345]) (by repeat (first | exact eF_refl | refine eF_cs ?_ rfl)) (by repeat (first | exact eH_refl | refine eH_rs ?_ rfl | refine eH_rsl ?_)) rfl rfl, ?_, eG2_fr g2 (K := [10210]) (K' := [1345]) (by repeat (first | exact eF_refl | refine eF_cs ?_ rfl)) (by repeat (first | exact eH_refl | refine eH_rs ?_ rfl | refine eH_rsl ?_)) rfl rfl, eG3_fr g3 (K := [10210]) (K' := [1345]) (by repeat (first | exact eF_refl | refine eF_cs ?_ rfl)) (by repeat (first | exact eH_refl | refine eH_rs ?_ rfl | refine eH_rsl ?_)) (fun _ _ => rfl) rfl rfl, eG4_fr g4 (K := [10210]) (K' := [1345]) (by repeat (first | exact eF_refl | refine eF_cs ?_ rfl)) (by repeat (first | exact eH_refl | refine eH_rs ?_ rfl | refine eH_rsl ?_)) rfl rfl, eG5_fr g5 (K := [10210]) (K' := [1345]) (by repeat (first | exact eF_refl | refine eF_cs ?_ rfl)) (by repeat (first | exact eH_refl | refine eH_rs ?_ rfl | refine eH_rsl ?_)) rfl rfl, eG6_fr g6 (K := [10210]) (K' := [1345]) (by repeat (first | exact eF_refl | refine eF_cs ?_ rfl)) (by repeat (first | exact eH_refl | refine eH_rs ?_ rfl | refine eH_rsl ?_)) rfl rfl, eG7_mono (eG7_fr g7 (K := [10210]) (K' := [1345]) (by repeat (first | exact eF_refl | refine eF_cs ?_ rfl)) (by repeat (first | exact eH_refl | refine eH_rs ?_ rfl | refine eH_rsl ?_)) rfl rfl) (Nat.le_succ n), eG8_fr g8 (K := [10210]) (K' := [1345]) (by repeat (first | exact eF_refl | refine eF_cs ?_ rfl)) (by repeat (first | exact eH_refl | refine eH_rs ?_ rfl | refine eH_rsl ?_)) ⟨rfl, rfl⟩ rfl rfl, eG9_fr g9 (K := [10210]) (K' := [1345]) (by repeat (first | exact eF_refl | refine eF_cs ?_ rfl)) (by repeat (first | exact eH_refl | refine eH_rs ?_ rfl | refine eH_rsl ?_)) rfl rfl⟩
  unfold eG1 at *
  simp only [cg_cs, rg_rs]
  grind
theorem o_place {n : Nat} {MC : cM} {MR : rM} (h : eRel n MC MR) (x1 x2 : Int32) : eO n (m11_place x1 x2 MC) (m12_place x1 x2 MR) := by
  obtain ⟨m, t, hm, ht, g0, g1, g2, g3, g4, g5, g6, g7, g8, g9⟩ := h
  unfold m11_place m12_place
  rcases e_bx x1 m hm with hb | ⟨b, hb, rfl⟩
  · simp only [kn_n g0.1 hb, ib_n g0.2.1 hm hb, zbd_s, zbv_s, zgd_t, Bool.and_true, Bool.true_and, Bool.and_self, if_true, if_false, e_01, eq_self, Bool.false_eq_true]
    exact eO_same ⟨m, t, hm, ht, g0, g1, g2, g3, g4, g5, g6, g7, g8, g9⟩
  have hb10 : b < 10 := by omega
  simp only [kn_y g0.1 hm hb, ib_y g0.2.1 hm hb, of_y hb10, blt_t hb10, ezin_nI hb10 (show 10 < 2 ^ 31 by decide), ex_nI (show b < 2 ^ 31 by omega), zbd_s, zbv_s, zgd_t, Bool.and_true, Bool.true_and, Bool.and_self, if_true, if_false, e_01, eq_self, Bool.false_eq_true]
  rcases (Classical.em ((0 : Int32) ≤ x2 ∧ x2 ≤ 36)).symm with h2 | h2
  · simp only [out_y h2, in_n h2, zbd_s, zbv_s, zgd_t, Bool.and_true, Bool.true_and, Bool.and_self, if_true, if_false, e_01, eq_self, Bool.false_eq_true]
    exact eO_same ⟨m, t, hm, ht, g0, g1, g2, g3, g4, g5, g6, g7, g8, g9⟩
  simp only [out_n h2.1 h2.2, in_y h2.1 h2.2, zbd_s, zbv_s, zgd_t, Bool.and_true, Bool.true_and, Bool.and_self, if_true, if_false, e_01, eq_self, Bool.false_eq_true]
  refine eO_fin (g1.1 b hb10).2.2.2.2.2.2.2.1 ⟨m, t, hm, ht, eG0_fr g0 (K := [10211]) (K' := [1358]) (by repeat (first | exact eF_refl | refine eF_cs ?_ rfl)) (by repeat (first | exact eH_refl | refine eH_rs ?_ rfl | refine eH_rsl ?_)) rfl rfl, ?_, eG2_fr g2 (K := [10211]) (K' := [1358]) (by repeat (first | exact eF_refl | refine eF_cs ?_ rfl)) (by repeat (first | exact eH_refl | refine eH_rs ?_ rfl | refine eH_rsl ?_)) rfl rfl, eG3_fr g3 (K := [10211]) (K' := [1358]) (by repeat (first | exact eF_refl | refine eF_cs ?_ rfl)) (by repeat (first | exact eH_refl | refine eH_rs ?_ rfl | refine eH_rsl ?_)) (fun _ _ => rfl) rfl rfl, eG4_fr g4 (K := [10211]) (K' := [1358]) (by repeat (first | exact eF_refl | refine eF_cs ?_ rfl)) (by repeat (first | exact eH_refl | refine eH_rs ?_ rfl | refine eH_rsl ?_)) rfl rfl, eG5_fr g5 (K := [10211]) (K' := [1358]) (by repeat (first | exact eF_refl | refine eF_cs ?_ rfl)) (by repeat (first | exact eH_refl | refine eH_rs ?_ rfl | refine eH_rsl ?_)) rfl rfl, eG6_fr g6 (K := [10211]) (K' := [1358]) (by repeat (first | exact eF_refl | refine eF_cs ?_ rfl)) (by repeat (first | exact eH_refl | refine eH_rs ?_ rfl | refine eH_rsl ?_)) rfl rfl, eG7_mono (eG7_fr g7 (K := [10211]) (K' := [1358]) (by repeat (first | exact eF_refl | refine eF_cs ?_ rfl)) (by repeat (first | exact eH_refl | refine eH_rs ?_ rfl | refine eH_rsl ?_)) rfl rfl) (Nat.le_succ n), eG8_fr g8 (K := [10211]) (K' := [1358]) (by repeat (first | exact eF_refl | refine eF_cs ?_ rfl)) (by repeat (first | exact eH_refl | refine eH_rs ?_ rfl | refine eH_rsl ?_)) ⟨rfl, rfl⟩ rfl rfl, eG9_fr g9 (K := [10211]) (K' := [1358]) (by repeat (first | exact eF_refl | refine eF_cs ?_ rfl)) (by repeat (first | exact eH_refl | refine eH_rs ?_ rfl | refine eH_rsl ?_)) rfl rfl⟩
  unfold eG1 at *
  simp only [cg_cs, rg_rs]
  grind
theorem e24 (a : Nat) : (24 : Int32) * nI a = nI (24 * a) := by rw [show (24 : Int32) = nI 24 from rfl, eI_mul]
theorem e6 (a : Nat) : (6 : Int32) * nI a = nI (6 * a) := by rw [show (6 : Int32) = nI 6 from rfl, eI_mul]
theorem e5 (a : Nat) : (5 : Int32) * nI a = nI (5 * a) := by rw [show (5 : Int32) = nI 5 from rfl, eI_mul]
theorem e10 (a : Nat) : (10 : Int32) * nI a = nI (10 * a) := by rw [show (10 : Int32) = nI 10 from rfl, eI_mul]
theorem ep1 (a : Nat) : nI a + (1 : Int32) = nI (a + 1) := by rw [show (1 : Int32) = nI 1 from rfl, eI_add]
theorem o_loud {n : Nat} {MC : cM} {MR : rM} (h : eRel n MC MR) (x1 x2 x3 : Int32) : eO n (m11_loud x1 x2 x3 MC) (m12_loud x1 x2 x3 MR) := by
  obtain ⟨m, t, hm, ht, g0, g1, g2, g3, g4, g5, g6, g7, g8, g9⟩ := h
  unfold m11_loud m12_loud
  rcases e_bx x1 m hm with hb | ⟨b, hb, rfl⟩
  · simp only [kn_n g0.1 hb, ib_n g0.2.1 hm hb, zbd_s, zbv_s, zgd_t, Bool.and_true, Bool.true_and, Bool.and_self, if_true, if_false, e_01, eq_self, Bool.false_eq_true]
    exact eO_same ⟨m, t, hm, ht, g0, g1, g2, g3, g4, g5, g6, g7, g8, g9⟩
  have hb10 : b < 10 := by omega
  simp only [kn_y g0.1 hm hb, ib_y g0.2.1 hm hb, of_y hb10, blt_t hb10, ezin_nI hb10 (show 10 < 2 ^ 31 by decide), ex_nI (show b < 2 ^ 31 by omega), zbd_s, zbv_s, zgd_t, Bool.and_true, Bool.true_and, Bool.and_self, if_true, if_false, e_01, eq_self, Bool.false_eq_true]
  rcases (Classical.em ((0 : Int32) ≤ x2 ∧ x2 ≤ 23)).symm with h2 | h2
  · simp only [out_y h2, in_n h2, zbd_s, zbv_s, zgd_t, Bool.and_true, Bool.true_and, Bool.and_self, if_true, if_false, e_01, eq_self, Bool.false_eq_true]
    exact eO_same ⟨m, t, hm, ht, g0, g1, g2, g3, g4, g5, g6, g7, g8, g9⟩
  simp only [out_n h2.1 h2.2, in_y h2.1 h2.2, zbd_s, zbv_s, zgd_t, Bool.and_true, Bool.true_and, Bool.and_self, if_true, if_false, e_01, eq_self, Bool.false_eq_true]
  rcases (Classical.em ((0 : Int32) ≤ x3 ∧ x3 ≤ 16)).symm with h3 | h3
  · simp only [out_y h3, in_n h3, zbd_s, zbv_s, zgd_t, Bool.and_true, Bool.true_and, Bool.and_self, if_true, if_false, e_01, eq_self, Bool.false_eq_true]
    exact eO_same ⟨m, t, hm, ht, g0, g1, g2, g3, g4, g5, g6, g7, g8, g9⟩
  simp only [out_n h3.1 h3.2, in_y h3.1 h3.2, zbd_s, zbv_s, zgd_t, Bool.and_true, Bool.true_and, Bool.and_self, if_true, if_false, e_01, eq_self, Bool.false_eq_true]
  obtain ⟨j, hj, rfl⟩ := eI_ofl (b := 23) h2.1 h2.2 (by decide)
  have hj24 : j < 24 := by omega
  simp only [e24, eI_add, ezin_nI (show 24 * b + j < 240 by omega) (show 240 < 2 ^ 31 by decide), ezin_nI hj24 (show 24 < 2 ^ 31 by decide), ex_nI (show j < 2 ^ 31 by omega), ex_nI (show 24 * b + j < 2 ^ 31 by omega), zbd_s, zbv_s, zgd_t, Bool.and_true, Bool.true_and, Bool.and_self, if_true, if_false, e_01, eq_self, Bool.false_eq_true]
  refine eO_fin (g1.2.1 b j hb10 hj24).1 ⟨m, t, hm, ht, eG0_fr g0 (K := [312]) (K' := [1344]) (by repeat (first | exact eF_refl | refine eF_cs ?_ rfl)) (by repeat (first | exact eH_refl | refine eH_rs ?_ rfl | refine eH_rsl ?_)) rfl rfl, ?_, eG2_fr g2 (K := [312]) (K' := [1344]) (by repeat (first | exact eF_refl | refine eF_cs ?_ rfl)) (by repeat (first | exact eH_refl | refine eH_rs ?_ rfl | refine eH_rsl ?_)) rfl rfl, eG3_fr g3 (K := [312]) (K' := [1344]) (by repeat (first | exact eF_refl | refine eF_cs ?_ rfl)) (by repeat (first | exact eH_refl | refine eH_rs ?_ rfl | refine eH_rsl ?_)) (fun _ _ => rfl) rfl rfl, eG4_fr g4 (K := [312]) (K' := [1344]) (by repeat (first | exact eF_refl | refine eF_cs ?_ rfl)) (by repeat (first | exact eH_refl | refine eH_rs ?_ rfl | refine eH_rsl ?_)) rfl rfl, eG5_fr g5 (K := [312]) (K' := [1344]) (by repeat (first | exact eF_refl | refine eF_cs ?_ rfl)) (by repeat (first | exact eH_refl | refine eH_rs ?_ rfl | refine eH_rsl ?_)) rfl rfl, eG6_fr g6 (K := [312]) (K' := [1344]) (by repeat (first | exact eF_refl | refine eF_cs ?_ rfl)) (by repeat (first | exact eH_refl | refine eH_rs ?_ rfl | refine eH_rsl ?_)) rfl rfl, eG7_mono (eG7_fr g7 (K := [312]) (K' := [1344]) (by repeat (first | exact eF_refl | refine eF_cs ?_ rfl)) (by repeat (first | exact eH_refl | refine eH_rs ?_ rfl | refine eH_rsl ?_)) rfl rfl) (Nat.le_succ n), eG8_fr g8 (K := [312]) (K' := [1344]) (by repeat (first | exact eF_refl | refine eF_cs ?_ rfl)) (by repeat (first | exact eH_refl | refine eH_rs ?_ rfl | refine eH_rsl ?_)) ⟨rfl, rfl⟩ rfl rfl, eG9_fr g9 (K := [312]) (K' := [1344]) (by repeat (first | exact eF_refl | refine eF_cs ?_ rfl)) (by repeat (first | exact eH_refl | refine eH_rs ?_ rfl | refine eH_rsl ?_)) rfl rfl⟩
  unfold eG1 at *
  simp only [cg_cs, rg_rs]
  obtain ⟨a1, a2, a3, a4⟩ := g1
  refine ⟨by grind, ?_, by grind, by grind⟩
  intro b' j' hb' hj'
  have := a2 b' j' hb' hj'
  by_cases hh : b' = b ∧ j' = j
  · obtain ⟨rfl, rfl⟩ := hh
    simp [h3.1, h3.2]
  · rw [if_neg (by grind), if_neg (by omega)]
    exact this
theorem o_hears {n : Nat} {MC : cM} {MR : rM} (h : eRel n MC MR) (x1 x2 x3 : Int32) : eO n (m11_hears x1 x2 x3 MC) (m12_hears x1 x2 x3 MR) := by
  obtain ⟨m, t, hm, ht, g0, g1, g2, g3, g4, g5, g6, g7, g8, g9⟩ := h
  unfold m11_hears m12_hears m11_hears_80 m12_hears_70
  rcases e_bx x1 m hm with hb | ⟨b, hb, rfl⟩
  · simp only [kn_n g0.1 hb, ib_n g0.2.1 hm hb, zbd_s, zbv_s, zgd_t, Bool.and_true, Bool.true_and, Bool.and_self, if_true, if_false, e_01, eq_self, Bool.false_eq_true]
    exact eO_same ⟨m, t, hm, ht, g0, g1, g2, g3, g4, g5, g6, g7, g8, g9⟩
  have hb10 : b < 10 := by omega
  simp only [kn_y g0.1 hm hb, ib_y g0.2.1 hm hb, of_y hb10, blt_t hb10, ezin_nI hb10 (show 10 < 2 ^ 31 by decide), ex_nI (show b < 2 ^ 31 by omega), zbd_s, zbv_s, zgd_t, Bool.and_true, Bool.true_and, Bool.and_self, if_true, if_false, e_01, eq_self, Bool.false_eq_true]
  rcases e_bx x2 m hm with hc | ⟨c, hc, rfl⟩
  · simp only [kn_n g0.1 hc, ib_n g0.2.1 hm hc, zbd_s, zbv_s, zgd_t, Bool.and_true, Bool.true_and, Bool.and_self, if_true, if_false, e_01, eq_self, Bool.false_eq_true]
    exact eO_same ⟨m, t, hm, ht, g0, g1, g2, g3, g4, g5, g6, g7, g8, g9⟩
  have hc10 : c < 10 := by omega
  simp only [kn_y g0.1 hm hc, ib_y g0.2.1 hm hc, eI_inj (show b < 2 ^ 31 by omega) (show c < 2 ^ 31 by omega), zbd_s, zbv_s, zgd_t, Bool.and_true, Bool.true_and, Bool.and_self, if_true, if_false, e_01, eq_self, Bool.false_eq_true]
  by_cases hbc : b = c
  · simp only [hbc, if_true]
    exact eO_same ⟨m, t, hm, ht, g0, g1, g2, g3, g4, g5, g6, g7, g8, g9⟩
  simp only [hbc, if_false]
  have e := (g1.1 b hb10).2.2.2.2.2.1.1
  by_cases h3 : x3 = 0
  · simp only [h3, if_true]
    refine eO_fin (by rw [e]) ⟨m, t, hm, ht, eG0_fr g0 (K := [10209]) (K' := [1307]) (by repeat (first | exact eF_refl | refine eF_cs ?_ rfl)) (by repeat (first | exact eH_refl | refine eH_rs ?_ rfl | refine eH_rsl ?_)) rfl rfl, ?_, eG2_fr g2 (K := [10209]) (K' := [1307]) (by repeat (first | exact eF_refl | refine eF_cs ?_ rfl)) (by repeat (first | exact eH_refl | refine eH_rs ?_ rfl | refine eH_rsl ?_)) rfl rfl, eG3_fr g3 (K := [10209]) (K' := [1307]) (by repeat (first | exact eF_refl | refine eF_cs ?_ rfl)) (by repeat (first | exact eH_refl | refine eH_rs ?_ rfl | refine eH_rsl ?_)) (fun _ _ => rfl) rfl rfl, eG4_fr g4 (K := [10209]) (K' := [1307]) (by repeat (first | exact eF_refl | refine eF_cs ?_ rfl)) (by repeat (first | exact eH_refl | refine eH_rs ?_ rfl | refine eH_rsl ?_)) rfl rfl, eG5_fr g5 (K := [10209]) (K' := [1307]) (by repeat (first | exact eF_refl | refine eF_cs ?_ rfl)) (by repeat (first | exact eH_refl | refine eH_rs ?_ rfl | refine eH_rsl ?_)) rfl rfl, eG6_fr g6 (K := [10209]) (K' := [1307]) (by repeat (first | exact eF_refl | refine eF_cs ?_ rfl)) (by repeat (first | exact eH_refl | refine eH_rs ?_ rfl | refine eH_rsl ?_)) rfl rfl, eG7_mono (eG7_fr g7 (K := [10209]) (K' := [1307]) (by repeat (first | exact eF_refl | refine eF_cs ?_ rfl)) (by repeat (first | exact eH_refl | refine eH_rs ?_ rfl | refine eH_rsl ?_)) rfl rfl) (Nat.le_succ n), eG8_fr g8 (K := [10209]) (K' := [1307]) (by repeat (first | exact eF_refl | refine eF_cs ?_ rfl)) (by repeat (first | exact eH_refl | refine eH_rs ?_ rfl | refine eH_rsl ?_)) ⟨rfl, rfl⟩ rfl rfl, eG9_fr g9 (K := [10209]) (K' := [1307]) (by repeat (first | exact eF_refl | refine eF_cs ?_ rfl)) (by repeat (first | exact eH_refl | refine eH_rs ?_ rfl | refine eH_rsl ?_)) rfl rfl⟩
    unfold eG1 at *
    simp only [cg_cs, rg_rs]
    have hb2 : ∀ j : Nat, eb (rg MR 1307 0 b) j = false → eb (rg MR 1307 0 b &&& (zshl 1 (nI c) ^^^ -1)) j = false := by
      intro j hj; rw [eb_and, hj, Bool.false_and]
    grind
  · simp only [h3, if_false]
    refine eO_fin (by rw [e]) ⟨m, t, hm, ht, eG0_fr g0 (K := [10209]) (K' := [1307]) (by repeat (first | exact eF_refl | refine eF_cs ?_ rfl)) (by repeat (first | exact eH_refl | refine eH_rs ?_ rfl | refine eH_rsl ?_)) rfl rfl, ?_, eG2_fr g2 (K := [10209]) (K' := [1307]) (by repeat (first | exact eF_refl | refine eF_cs ?_ rfl)) (by repeat (first | exact eH_refl | refine eH_rs ?_ rfl | refine eH_rsl ?_)) rfl rfl, eG3_fr g3 (K := [10209]) (K' := [1307]) (by repeat (first | exact eF_refl | refine eF_cs ?_ rfl)) (by repeat (first | exact eH_refl | refine eH_rs ?_ rfl | refine eH_rsl ?_)) (fun _ _ => rfl) rfl rfl, eG4_fr g4 (K := [10209]) (K' := [1307]) (by repeat (first | exact eF_refl | refine eF_cs ?_ rfl)) (by repeat (first | exact eH_refl | refine eH_rs ?_ rfl | refine eH_rsl ?_)) rfl rfl, eG5_fr g5 (K := [10209]) (K' := [1307]) (by repeat (first | exact eF_refl | refine eF_cs ?_ rfl)) (by repeat (first | exact eH_refl | refine eH_rs ?_ rfl | refine eH_rsl ?_)) rfl rfl, eG6_fr g6 (K := [10209]) (K' := [1307]) (by repeat (first | exact eF_refl | refine eF_cs ?_ rfl)) (by repeat (first | exact eH_refl | refine eH_rs ?_ rfl | refine eH_rsl ?_)) rfl rfl, eG7_mono (eG7_fr g7 (K := [10209]) (K' := [1307]) (by repeat (first | exact eF_refl | refine eF_cs ?_ rfl)) (by repeat (first | exact eH_refl | refine eH_rs ?_ rfl | refine eH_rsl ?_)) rfl rfl) (Nat.le_succ n), eG8_fr g8 (K := [10209]) (K' := [1307]) (by repeat (first | exact eF_refl | refine eF_cs ?_ rfl)) (by repeat (first | exact eH_refl | refine eH_rs ?_ rfl | refine eH_rsl ?_)) ⟨rfl, rfl⟩ rfl rfl, eG9_fr g9 (K := [10209]) (K' := [1307]) (by repeat (first | exact eF_refl | refine eF_cs ?_ rfl)) (by repeat (first | exact eH_refl | refine eH_rs ?_ rfl | refine eH_rsl ?_)) rfl rfl⟩
    unfold eG1 at *
    simp only [cg_cs, rg_rs]
    have hb2 : ∀ j : Nat, j ≠ c → eb (rg MR 1307 0 b) j = false → eb (rg MR 1307 0 b ||| zshl 1 (nI c)) j = false := by
      intro j hj hj2; rw [eb_or, hj2, eb_shl (by omega)]; simpa using hj
    grind
theorem o_erase {n : Nat} {MC : cM} {MR : rM} (h : eRel n MC MR) : eO n (m11_erase MC) (m12_erase MR) := by
  obtain ⟨m, t, hm, ht, g0, g1, g2, g3, g4, g5, g6, g7, g8, g9⟩ := h
  unfold m11_erase m12_erase
  obtain ⟨q, q1, q2, q3, q4⟩ := g4
  refine eO_fin (by rw [q2, q3]) ⟨m, t, hm, ht, eG0_fr g0 (K := [11001]) (K' := [11228]) (by repeat (first | exact eF_refl | refine eF_cs ?_ rfl)) (by repeat (first | exact eH_refl | refine eH_rs ?_ rfl | refine eH_rsl ?_)) rfl rfl, eG1_fr g1 (K := [11001]) (K' := [11228]) (by repeat (first | exact eF_refl | refine eF_cs ?_ rfl)) (by repeat (first | exact eH_refl | refine eH_rs ?_ rfl | refine eH_rsl ?_)) rfl rfl, eG2_fr g2 (K := [11001]) (K' := [11228]) (by repeat (first | exact eF_refl | refine eF_cs ?_ rfl)) (by repeat (first | exact eH_refl | refine eH_rs ?_ rfl | refine eH_rsl ?_)) rfl rfl, eG3_fr g3 (K := [11001]) (K' := [11228]) (by repeat (first | exact eF_refl | refine eF_cs ?_ rfl)) (by repeat (first | exact eH_refl | refine eH_rs ?_ rfl | refine eH_rsl ?_)) (fun _ _ => rfl) rfl rfl, ?_, eG5_fr g5 (K := [11001]) (K' := [11228]) (by repeat (first | exact eF_refl | refine eF_cs ?_ rfl)) (by repeat (first | exact eH_refl | refine eH_rs ?_ rfl | refine eH_rsl ?_)) rfl rfl, eG6_fr g6 (K := [11001]) (K' := [11228]) (by repeat (first | exact eF_refl | refine eF_cs ?_ rfl)) (by repeat (first | exact eH_refl | refine eH_rs ?_ rfl | refine eH_rsl ?_)) rfl rfl, eG7_mono (eG7_fr g7 (K := [11001]) (K' := [11228]) (by repeat (first | exact eF_refl | refine eF_cs ?_ rfl)) (by repeat (first | exact eH_refl | refine eH_rs ?_ rfl | refine eH_rsl ?_)) rfl rfl) (Nat.le_succ n), eG8_fr g8 (K := [11001]) (K' := [11228]) (by repeat (first | exact eF_refl | refine eF_cs ?_ rfl)) (by repeat (first | exact eH_refl | refine eH_rs ?_ rfl | refine eH_rsl ?_)) ⟨rfl, rfl⟩ rfl rfl, eG9_fr g9 (K := [11001]) (K' := [11228]) (by repeat (first | exact eF_refl | refine eF_cs ?_ rfl)) (by repeat (first | exact eH_refl | refine eH_rs ?_ rfl | refine eH_rsl ?_)) rfl rfl⟩
  exact ⟨0, by omega, rfl, rfl, fun j hj => absurd hj (by omega)⟩
